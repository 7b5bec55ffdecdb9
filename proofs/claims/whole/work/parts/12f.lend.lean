/-! rise, lend, undo: both sides -/
def mk_rise (r : Nat → Nat) (p : Nat) : Nat → Nat := fun j => if j = 70 + p then r (70 + p) + 1 else r j
theorem mk_rise_W {A : mk_A} {r : Nat → Nat} (hT : mk_T A) (hW : mk_W A r) {p : Nat} (hp : p < A 263 0) (h9 : r (70 + p) < 9) : mk_W A (mk_rise r p) := by
  have hP := hT.1.1
  have hS := hT.1.2.1
  obtain ⟨w1, w2, w3, w4, w5, w6, w7, w8⟩ := hW
  have n : ∀ j, ¬ j = 70 + p → mk_rise r p j = r j := fun j h1 => by unfold mk_rise; rw [if_neg h1]
  refine ⟨fun j hj => ?_, fun i hi => ?_, ?_, ?_, ?_, ?_, fun i j hi hj => ?_, fun i j hi hj hij => ?_⟩
  · rw [n _ (by omega)]; exact w1 j hj
  · by_cases e : i = p
    · subst e
      have : mk_rise r i (70 + i) = r (70 + i) + 1 := if_pos rfl
      omega
    · rw [n _ (by omega)]; exact w2 i hi
  · rw [n _ (by omega)]; exact w3
  · rw [n _ (by omega)]; exact w4
  · rw [n _ (by omega)]; exact w5
  · rw [n _ (by omega)]; exact w6
  · rw [n _ (by omega)]; exact w7 i j hi hj
  · rw [n _ (by omega)]; exact w8 i j hi hj hij
theorem mc_rise (x1 : Int32) : mk_call (f_X_rise x1) (f_M_rise x1) := by
  refine mk_callof (fun A E t r u hw => ?_)
  have hT := hw.1
  have hW := hw.2.1
  have hP := hT.1.1
  have hS1 := hT.1.2.1
  by_cases hs : mk_is (A 263 0) x1
  · obtain ⟨p, hp, rfl⟩ := id hs
    have b9 := hW.2.1 p hp
    by_cases h9 : r (70 + p) < 9
    · have hwr := mk_rem_wf hw
      have hW' := mk_rise_W hT hW hp h9
      have n : ∀ j, ¬ j = 70 + p → mk_rise r p j = r j := fun j h1 => by unfold mk_rise; rw [if_neg h1]
      have np : mk_rise r p (70 + p) = r (70 + p) + 1 := if_pos rfl
      refine ⟨Int32.ofNat (r (70 + p) + 1), mk_rise r p, mk_rem u r, t, hwr.row hW', fun h hX => ?_, fun h hM => ?_⟩
      · unfold f_X_rise
        refine mk_ok.bs (mx_gT hX.1.1 hX.2.1.1) ?_
        rw [mx_hasPerson hT hX.2.1, if_pos hs]
        refine mk_ok.bs rfl ?_
        rw [if_neg (by decide)]
        refine mk_ok.bs (mn_ix (by omega) (by omega)) ?_
        have e : h.1 38 p = Int32.ofNat (r (70 + p)) := (hX.2.2.1.1.2.2.1 p hp).1
        rw [e, if_pos ((mn_ltl (b := 9) (show r (70 + p) < 2147483648 by omega) (by decide)).mpr h9)]
        refine mk_ok.bind (mx_remember hw hX) (fun v8 ⟨a1, a2⟩ => ?_)
        refine mk_ok.bs (mn_ix (by omega) (by omega)) ?_
        refine mk_ok.bs (mn_ix (by omega) (by omega)) ?_
        simp only [mm_let]
        refine mk_ok.bs (mn_ix (by omega) (by omega)) ?_
        have e8 : v8.1 38 p = Int32.ofNat (r (70 + p)) := (a1.2.2.1.1.2.2.1 p hp).1
        have ev : mm_pI v8 38 p (v8.1 38 p + 1) = mm_pI v8 38 p (Int32.ofNat (r (70 + p) + 1)) := by rw [e8, mn_addl 1]
        rw [ev]
        have k : mk_ch (fun c => c = 38) v8 (mm_pI v8 38 p (Int32.ofNat (r (70 + p) + 1))) := mk_ch.pI (D := fun c => c = 38) rfl
        obtain ⟨s0, s1, s2, s3, s4, s5, s6, s7⟩ := a1.2.2.1.1
        have XR : mk_XR A 35 (mk_rise r p) (mm_pI v8 38 p (Int32.ofNat (r (70 + p) + 1))) := by
          refine ⟨⟨s0, fun i hi => ?_, fun i hi => ?_, ?_, ?_, ?_, ?_, ?_⟩, fun p' q' k' h1 h2 h3 => ?_, fun p' h1 => ?_⟩
          · rw [n _ (by omega), mp_I1, if_neg (by omega)]; exact s1 i hi
          · rw [n (79 + i) (by omega), mp_I1, mp_I1]
            refine ⟨?_, ?_⟩
            · by_cases e : i = p
              · subst e
                rw [if_pos ⟨rfl, rfl⟩, np]
              · rw [if_neg (fun z => e z.2), n _ (by omega)]; exact (s2 i hi).1
            · rw [if_neg (by omega)]; exact (s2 i hi).2
          · rw [n _ (by omega), mp_I1, if_neg (by omega)]; exact s3
          · rw [n _ (by omega), mp_I1, if_neg (by omega)]; exact s4
          · rw [n _ (by omega), mp_I1, if_neg (by omega)]; exact s5
          · rw [n _ (by omega), mp_I1, if_neg (by omega)]; exact s6
          · rw [n _ (by omega), mp_I1, if_neg (by omega)]; exact s7
          · rw [n _ (by omega)]
            exact a1.2.2.1.2.1 p' q' k' h1 h2 h3
          · rw [mk_net_congr (by omega) (fun j h1 h2 => n j (by omega)), mp_I1, if_neg (by omega)]
            exact a1.2.2.1.2.2 p' h1
        refine mk_ok.ret ⟨?_, a1.row hwr (k.mono (fun c z => by omega)) XR, (mk_fM.of a2 (fun c z => by omega)).tr (mk_fM.of k (fun c z => by omega))⟩
        show (mm_pI v8 38 p (Int32.ofNat (r (70 + p) + 1))).1 38 p = _
        rw [mp_I1, if_pos ⟨rfl, rfl⟩]
      · unfold f_M_rise
        refine mk_ok.let ?_
        have p0 : mk_s2m h (mm_pI h 261 0 0) := mk_s2m.pI ⟨by decide, by decide⟩
        have hM1 := hM.s2 p0
        revert p0 hM1
        generalize mm_pI h 261 0 0 = h1
        intro p0 hM1
        rw [mi_isPerson hT hM1.1, if_pos hs]
        refine mk_ok.bs rfl ?_
        rw [if_neg (by decide), mn_ladd 70]
        have ix : mm_ix (Int32.ofNat (70 + p)) 123 = some (70 + p) := mn_ix (by omega) (by omega)
        refine mk_ok.bs ix ?_
        rw [hM1.2.1 (70 + p) (by omega), if_neg (fun z => absurd ((mn_eql (b := 9) (show r (70 + p) < 4294967296 by omega) (by decide)).mp z) (show ¬ r (70 + p) = 9 by omega))]
        refine mk_ok.bind (mi_keeps hw hM1) (fun v8 ⟨a1, a2⟩ => ?_)
        refine mk_ok.bs ix ?_
        refine mk_ok.bs ix ?_
        simp only [mm_let]
        refine mk_ok.bs ix ?_
        have ev : mm_pI v8 301 (70 + p) (v8.1 301 (70 + p) + 1) = mm_pI v8 301 (70 + p) (Int32.ofNat (r (70 + p) + 1)) := by rw [a1.2.1 (70 + p) (by omega), mn_addl 1]
        rw [ev]
        have k : mk_ch (fun c => c = 301) v8 (mm_pI v8 301 (70 + p) (Int32.ofNat (r (70 + p) + 1))) := mk_ch.pI (D := fun c => c = 301) rfl
        refine mk_ok.ret ⟨?_, a1.row k (fun j hj => ?_), ((mk_fX.s2 p0).tr a2).tr (mk_fX.of k (fun c z => by omega))⟩
        · show (mm_pI v8 301 (70 + p) (Int32.ofNat (r (70 + p) + 1))).1 301 (70 + p) = _
          rw [mp_I1, if_pos ⟨rfl, rfl⟩]
        · rw [mp_I1]
          by_cases e : j = 70 + p
          · rw [if_pos ⟨rfl, e⟩, e, np]
          · rw [if_neg (fun z => e z.2), n j e]; exact a1.2.1 j hj
    · have e9 : r (70 + p) = 9 := by omega
      refine ⟨-1, r, u, t, hw, fun h hX => ?_, fun h hM => ?_⟩
      · unfold f_X_rise
        refine mk_ok.bs (mx_gT hX.1.1 hX.2.1.1) ?_
        rw [mx_hasPerson hT hX.2.1, if_pos hs]
        refine mk_ok.bs rfl ?_
        rw [if_neg (by decide)]
        refine mk_ok.bs (mn_ix (by omega) (by omega)) ?_
        have e : h.1 38 p = Int32.ofNat (r (70 + p)) := (hX.2.2.1.1.2.2.1 p hp).1
        rw [e, e9, if_neg (by decide)]
        exact mk_ok.ret ⟨rfl, hX, mk_fM.rf⟩
      · unfold f_M_rise
        refine mk_ok.let ?_
        have p0 : mk_s2m h (mm_pI h 261 0 0) := mk_s2m.pI ⟨by decide, by decide⟩
        have hM1 := hM.s2 p0
        revert p0 hM1
        generalize mm_pI h 261 0 0 = h1
        intro p0 hM1
        rw [mi_isPerson hT hM1.1, if_pos hs]
        refine mk_ok.bs rfl ?_
        rw [if_neg (by decide), mn_ladd 70]
        refine mk_ok.bs (mn_ix (k := 70 + p) (by omega) (by omega)) ?_
        rw [hM1.2.1 (70 + p) (by omega), e9, if_pos (by decide)]
        exact mk_ok.ret ⟨rfl, hM1, mk_fX.s2 p0⟩
  · refine ⟨-1, r, u, t, hw, fun h hX => ?_, fun h hM => ?_⟩
    · unfold f_X_rise
      refine mk_ok.bs (mx_gT hX.1.1 hX.2.1.1) ?_
      rw [mx_hasPerson hT hX.2.1, if_neg hs]
      refine mk_ok.bs rfl ?_
      rw [if_pos rfl]
      exact mk_ok.ret ⟨rfl, hX, mk_fM.rf⟩
    · unfold f_M_rise
      refine mk_ok.let ?_
      have p0 : mk_s2m h (mm_pI h 261 0 0) := mk_s2m.pI ⟨by decide, by decide⟩
      have hM1 := hM.s2 p0
      revert p0 hM1
      generalize mm_pI h 261 0 0 = h1
      intro p0 hM1
      rw [mi_isPerson hT hM1.1, if_neg hs]
      refine mk_ok.bs rfl ?_
      rw [if_pos rfl]
      exact mk_ok.ret ⟨rfl, hM1, mk_fX.s2 p0⟩
/-! lend -/
def mk_lend (r : Nat → Nat) (p q w : Nat) : Nat → Nat := fun j => if j = 86 + 6 * q + p then r j + w else if j = 122 then r 122 + 1 else r j
theorem mk_lend_net {r : Nat → Nat} {p q w i : Nat} (hp : p < 6) (hq : q < 6) (hi : i < 6) (hpq : ¬ p = q) : mk_net (mk_lend r p q w) i = if i = p then mk_net r i + Int32.ofNat w else if i = q then mk_net r i - Int32.ofNat w else mk_net r i := by
  have n : ∀ j, j < 122 → ¬ j = 86 + 6 * q + p → mk_lend r p q w j = r j := fun j h1 h2 => by unfold mk_lend; rw [if_neg h2, if_neg (by omega)]
  have np : mk_lend r p q w (86 + 6 * q + p) = r (86 + 6 * q + p) + w := if_pos rfl
  have key : ∀ m, m ≤ 6 → mk_netN (mk_lend r p q w) i m = if i = p ∧ q < m then mk_netN r i m + Int32.ofNat w else if i = q ∧ p < m then mk_netN r i m - Int32.ofNat w else mk_netN r i m := by
    intro m
    induction m with
    | zero => intro _; rw [if_neg (by omega), if_neg (by omega)]; rfl
    | succ m ih =>
      intro hm
      simp only [mk_netN]
      rw [ih (by omega)]
      by_cases c1 : i = p ∧ m = q
      · rw [if_neg (by omega), if_neg (by omega), if_pos (by omega)]
        have e : 86 + 6 * m + i = 86 + 6 * q + p := by omega
        rw [e, np, n _ (by omega) (by omega), Int32.ofNat_add]
        generalize mk_netN r i m = x
        generalize Int32.ofNat (r (86 + 6 * q + p)) = y
        generalize Int32.ofNat (r (86 + 6 * i + m)) = z
        grind
      · by_cases c2 : i = q ∧ m = p
        · rw [if_neg (by omega), if_neg (by omega), if_neg (by omega), if_pos (by omega)]
          have e : 86 + 6 * i + m = 86 + 6 * q + p := by omega
          rw [e, np, n _ (by omega) (by omega), Int32.ofNat_add]
          generalize mk_netN r i m = x
          generalize Int32.ofNat (r (86 + 6 * q + p)) = y
          generalize Int32.ofNat (r (86 + 6 * m + i)) = z
          grind
        · rw [n _ (by omega) (by omega), n _ (by omega) (by omega)]
          by_cases c3 : i = p ∧ q < m
          · rw [if_pos c3, if_pos (by omega)]
            grind
          · rw [if_neg c3, if_neg (show ¬ (i = p ∧ q < m + 1) by omega)]
            by_cases c4 : i = q ∧ p < m
            · rw [if_pos c4, if_pos (show i = q ∧ p < m + 1 by omega)]
              grind
            · rw [if_neg c4, if_neg (show ¬ (i = q ∧ p < m + 1) by omega)]
  have k := key 6 (Nat.le_refl _)
  show mk_netN _ i 6 = _
  rw [k]
  by_cases c1 : i = p
  · rw [if_pos ⟨c1, hq⟩, if_pos c1]; rfl
  · rw [if_neg (fun z => c1 z.1), if_neg c1]
    by_cases c2 : i = q
    · rw [if_pos ⟨c2, hp⟩, if_pos c2]; rfl
    · rw [if_neg (fun z => c2 z.1), if_neg c2]; rfl
theorem mk_lend_W {A : mk_A} {r : Nat → Nat} (hT : mk_T A) (hW : mk_W A r) {p q w : Nat} (hp : p < A 263 0) (hq : q < A 263 0) (h12 : r 122 < 12) : mk_W A (mk_lend r p q w) := by
  have hP := hT.1.1
  have hS := hT.1.2.1
  obtain ⟨w1, w2, w3, w4, w5, w6, w7, w8⟩ := hW
  have n : ∀ j, j < 86 → mk_lend r p q w j = r j := fun j h1 => by unfold mk_lend; rw [if_neg (by omega), if_neg (by omega)]
  refine ⟨fun j hj => ?_, fun i hi => ?_, ?_, ?_, ?_, ?_, fun i j hi hj => ?_, fun i j hi hj hij => ?_⟩
  · rw [n _ (by omega)]; exact w1 j hj
  · rw [n _ (by omega)]; exact w2 i hi
  · rw [n _ (by omega)]; exact w3
  · rw [n _ (by omega)]; exact w4
  · rw [n _ (by omega)]; exact w5
  · have : mk_lend r p q w 122 = r 122 + 1 := by unfold mk_lend; rw [if_neg (by omega), if_pos rfl]
    omega
  · rw [n _ (by omega)]; exact w7 i j hi hj
  · have : mk_lend r p q w (86 + 6 * j + i) = r (86 + 6 * j + i) := by unfold mk_lend; rw [if_neg (by omega), if_neg (by omega)]
    rw [this]; exact w8 i j hi hj hij
def mk_ml (A : mk_A) (r : Nat → Nat) (p q k : Nat) : Bool := decide (A 270 k = q) && ((r k).testBit p && decide (r 122 < 12))
theorem mx_mayLend1 {A : mk_A} {E : mk_E} {t a : Nat} {r : Nat → Nat} {h : mm_H} (hT : mk_T A) (hX : mk_XT A E t h) (hW : mk_W A r) (hS : mk_XS A a r h) {p q k : Nat} (h2 : mk_two A (Int32.ofNat p) (Int32.ofNat q)) (hp : p < A 263 0) (hq : q < A 263 0) (hk : k < A 263 1) : f_St_mayLend a t (Int32.ofNat p) (Int32.ofNat q) (Int32.ofNat k) h = some (Int32.ofNat (mk_ml A r p q k).toNat) := by
  have hP := hT.1.1
  have hS1 := hT.1.2.1
  have e1 := hS.2.1 k hk
  have e2 := mk_p2 hP (hW.1 k hk)
  have e3 := (hX.2.2.2.1 k hk).1
  have e4 := (hT.2.2.1 k hk).2.1
  have e5 := hS.2.2.2.2.2.2.1
  have e6 := hW.2.2.2.2.2.1
  have hs : mk_is (A 263 1) (Int32.ofNat k) := ⟨k, hk, rfl⟩
  unfold f_St_mayLend mk_ml
  rw [if_pos ⟨hS.1, (mk_tt hX.1).1⟩, mx_hasPair hT hX, if_pos h2]
  simp only [Option.bind_some]
  rw [if_neg (by decide), mx_hasSecret hT hX, if_pos hs]
  simp only [Option.bind_some]
  rw [if_neg (by decide)]
  simp (disch := omega) only [mn_ix, Option.bind_some, e1, mn_xbit, mn_b1, e3, mn_eq, e5, mn_lle]
  by_cases c1 : A 270 k = q
  · rw [if_pos c1, decide_eq_true c1]
    cases hb : (r k).testBit p
    · rw [if_neg (by decide)]; rfl
    · rw [if_pos rfl]
      by_cases c2 : 12 ≤ r 122
      · rw [if_pos c2, decide_eq_false (by omega)]; rfl
      · rw [if_neg c2, decide_eq_true (by omega)]; rfl
  · rw [if_neg c1, decide_eq_false c1]; rfl
theorem mx_mayLend0 {A : mk_A} {E : mk_E} {t a : Nat} {r : Nat → Nat} {h : mm_H} (hT : mk_T A) (hX : mk_XT A E t h) (hS : mk_XS A a r h) {x1 x2 x3 : Int32} (hn : ¬ (mk_two A x1 x2 ∧ mk_is (A 263 1) x3)) : f_St_mayLend a t x1 x2 x3 h = some 0 := by
  unfold f_St_mayLend
  rw [if_pos ⟨hS.1, (mk_tt hX.1).1⟩, mx_hasPair hT hX]
  by_cases h2 : mk_two A x1 x2
  · rw [if_pos h2]
    simp only [Option.bind_some]
    rw [if_neg (by decide), mx_hasSecret hT hX, if_neg (fun z => hn ⟨h2, z⟩)]
    rfl
  · rw [if_neg h2]
    rfl
theorem mc_lend (x1 x2 x3 : Int32) : mk_call (f_X_lend x1 x2 x3) (f_M_lend x1 x2 x3) := by
  refine mk_callof (fun A E t r u hw => ?_)
  have hT := hw.1
  have hW := hw.2.1
  have hP := hT.1.1
  have hS1 := hT.1.2.1
  by_cases hv : mk_two A x1 x2 ∧ mk_is (A 263 1) x3
  · obtain ⟨h2, hs⟩ := hv
    obtain ⟨⟨p, hp, rfl⟩, ⟨q, hq, rfl⟩, hne⟩ := id h2
    obtain ⟨k, hk, rfl⟩ := id hs
    have hpq : ¬ p = q := fun e => hne (by rw [e])
    have e4 := (hT.2.2.1 k hk).2.1
    have bk := mk_p2 hP (hW.1 k hk)
    have b122 := hW.2.2.2.2.2.1
    -- the reference's way to the loan
    have wayM : ∀ h1, mk_M A E r u h1 → ∀ (K : Option (Int32 × mm_H)) (P : Int32 × mm_H → Prop), (mk_ml A r p q k = true → mk_ok K P) → (mk_ml A r p q k = false → P (-1, h1)) → mk_ok ((f_M_areTwo (Int32.ofNat p) (Int32.ofNat q) h1).bind fun v4 => if v4 = 0 then (some ((-1), h1)) else ((f_M_isSecret (Int32.ofNat k) h1).bind fun v6 => if v6 = 0 then (some ((-1), h1)) else ((mm_ix (Int32.ofNat k) 20).bind fun k7 => if (h1.1 270 k7) = (Int32.ofNat q) then ((mm_ix (Int32.ofNat k) 123).bind fun k9 => if (((h1.1 301 k9) >>> ((Int32.ofNat p) &&& 31)) &&& 1) = 0 then (some ((-1), h1)) else (if (h1.1 301 122) = 12 then (some ((-1), h1)) else K)) else (some ((-1), h1))))) P := by
      intro h1 hM1 K P k1 k2
      have f1 := (hM1.1.2.2.1 k (by omega)).2.1
      have f2 := hM1.2.1 k (by omega)
      have f3 := hM1.2.1 122 (by omega)
      rw [mi_areTwo hT hM1.1, if_pos h2]
      refine mk_ok.bs rfl ?_
      rw [if_neg (by decide), mi_isSecret hT hM1.1, if_pos hs]
      refine mk_ok.bs rfl ?_
      rw [if_neg (by decide)]
      simp (disch := omega) only [mn_ix, Option.bind_some, f1, f2, mn_eq, mn_bit, mn_b0, f3, mn_eql]
      unfold mk_ml at k1 k2
      by_cases c1 : A 270 k = q
      · rw [if_pos c1]
        rw [decide_eq_true c1] at k1 k2
        cases hb : (r k).testBit p
        · rw [if_pos rfl]
          rw [hb] at k2
          exact mk_ok.ret (k2 rfl)
        · rw [if_neg (by decide)]
          rw [hb] at k1 k2
          by_cases c2 : r 122 = 12
          · rw [if_pos c2]
            rw [decide_eq_false (by omega)] at k2
            exact mk_ok.ret (k2 rfl)
          · rw [if_neg c2]
            rw [decide_eq_true (by omega)] at k1
            exact k1 rfl
      · rw [if_neg c1]
        rw [decide_eq_false c1] at k2
        exact mk_ok.ret (k2 rfl)
    by_cases hc : mk_ml A r p q k = true
    · have h12 : r 122 < 12 := by
        unfold mk_ml at hc
        simp only [Bool.and_eq_true, decide_eq_true_eq] at hc
        exact hc.2.2
      have wl := mk_w_lt (E := E) (r := r) hT hk
      have hW' := mk_lend_W (w := mk_w A E r k) hT hW hp hq h12
      have hwr := mk_rem_wf hw
      have n : ∀ j, ¬ j = 86 + 6 * q + p → ¬ j = 122 → mk_lend r p q (mk_w A E r k) j = r j := fun j h1 h2 => by unfold mk_lend; rw [if_neg h1, if_neg h2]
      have n122 : mk_lend r p q (mk_w A E r k) 122 = r 122 + 1 := by unfold mk_lend; rw [if_neg (by omega), if_pos rfl]
      have npq : mk_lend r p q (mk_w A E r k) (86 + 6 * q + p) = r (86 + 6 * q + p) + mk_w A E r k := if_pos rfl
      refine ⟨Int32.ofNat (mk_w A E r k), mk_lend r p q (mk_w A E r k), mk_rem u r, t, hwr.row hW', fun h hX => ?_, fun h hM => ?_⟩
      · unfold f_X_lend
        refine mk_ok.bs (mx_gT hX.1.1 hX.2.1.1) ?_
        refine mk_ok.bs (mx_mayLend1 hT hX.2.1 hW hX.2.2.1.1 h2 hp hq hk) ?_
        rw [hc, if_neg (by decide)]
        refine mk_ok.bind (mx_remember hw hX) (fun v6 ⟨a1, a2⟩ => ?_)
        refine mk_ok.bind (mx_weighed hT hW a1.1.1 a1.2.1 (Or.inl rfl) a1.2.2.1.1) (fun v8 ⟨c1, c2⟩ => ?_)
        have X8 := a1.DX hwr c1
        refine mk_ok.bs (mn_ix (by omega) (by omega)) ?_
        simp only [mm_let]
        rw [c2 k hk]
        unfold f_St_owe
        rw [if_pos X8.2.2.1.1.1]
        simp (disch := omega) only [mn_ix, Option.bind_some, mm_let]
        have dd : ∀ {h : mm_H} {k : Nat} {v : Int32}, mk_ch (fun c => 35 ≤ c ∧ c ≤ 40) h (mm_pI h (35 + 5) k v) := fun {h k v} => mk_ch.pI (D := fun c => 35 ≤ c ∧ c ≤ 40) ⟨by omega, by omega⟩
        have d0 : ∀ {h : mm_H} {k : Nat} {v : Int32}, mk_ch (fun c => 35 ≤ c ∧ c ≤ 40) h (mm_pI h 35 k v) := fun {h k v} => mk_ch.pI (D := fun c => 35 ≤ c ∧ c ≤ 40) ⟨by omega, by omega⟩
        have tr : ∀ {h h1 h2 : mm_H}, mk_ch (fun c => 35 ≤ c ∧ c ≤ 40) h h1 → mk_ch (fun c => 35 ≤ c ∧ c ≤ 40) h1 h2 → mk_ch (fun c => 35 ≤ c ∧ c ≤ 40) h h2 := fun a b => a.tr b (fun _ q => q) (fun _ q => q)
        have k9 := tr (tr (dd (h := v8) (k := p) (v := v8.1 (35 + 5) p + Int32.ofNat (mk_w A E r k))) (dd (k := q) (v := (mm_pI v8 (35 + 5) p (v8.1 (35 + 5) p + Int32.ofNat (mk_w A E r k))).1 (35 + 5) q - Int32.ofNat (mk_w A E r k)))) (d0 (k := 8) (v := (mm_pI (mm_pI v8 (35 + 5) p (v8.1 (35 + 5) p + Int32.ofNat (mk_w A E r k))) (35 + 5) q ((mm_pI v8 (35 + 5) p (v8.1 (35 + 5) p + Int32.ofNat (mk_w A E r k))).1 (35 + 5) q - Int32.ofNat (mk_w A E r k))).1 35 8 + 1))
        have w : ∀ c j, (mm_pI (mm_pI (mm_pI v8 (35 + 5) p (v8.1 (35 + 5) p + Int32.ofNat (mk_w A E r k))) (35 + 5) q ((mm_pI v8 (35 + 5) p (v8.1 (35 + 5) p + Int32.ofNat (mk_w A E r k))).1 (35 + 5) q - Int32.ofNat (mk_w A E r k))) 35 8 ((mm_pI (mm_pI v8 (35 + 5) p (v8.1 (35 + 5) p + Int32.ofNat (mk_w A E r k))) (35 + 5) q ((mm_pI v8 (35 + 5) p (v8.1 (35 + 5) p + Int32.ofNat (mk_w A E r k))).1 (35 + 5) q - Int32.ofNat (mk_w A E r k))).1 35 8 + 1)).1 c j = if c = 35 ∧ j = 8 then v8.1 35 8 + 1 else if c = 40 ∧ j = q then v8.1 40 q - Int32.ofNat (mk_w A E r k) else if c = 40 ∧ j = p then v8.1 40 p + Int32.ofNat (mk_w A E r k) else v8.1 c j := fun c j => by
          simp only [mp_I1, true_and, show ¬ q = p from fun e => hpq e.symm, show ¬ (35 = 35 + 5) by omega, false_and, if_false]
          try rfl
        have w2 : (mm_pI (mm_pI (mm_pI v8 (35 + 5) p (v8.1 (35 + 5) p + Int32.ofNat (mk_w A E r k))) (35 + 5) q ((mm_pI v8 (35 + 5) p (v8.1 (35 + 5) p + Int32.ofNat (mk_w A E r k))).1 (35 + 5) q - Int32.ofNat (mk_w A E r k))) 35 8 ((mm_pI (mm_pI v8 (35 + 5) p (v8.1 (35 + 5) p + Int32.ofNat (mk_w A E r k))) (35 + 5) q ((mm_pI v8 (35 + 5) p (v8.1 (35 + 5) p + Int32.ofNat (mk_w A E r k))).1 (35 + 5) q - Int32.ofNat (mk_w A E r k))).1 35 8 + 1)).2 = v8.2 := rfl
        generalize mm_pI (mm_pI (mm_pI v8 (35 + 5) p (v8.1 (35 + 5) p + Int32.ofNat (mk_w A E r k))) (35 + 5) q ((mm_pI v8 (35 + 5) p (v8.1 (35 + 5) p + Int32.ofNat (mk_w A E r k))).1 (35 + 5) q - Int32.ofNat (mk_w A E r k))) 35 8 ((mm_pI (mm_pI v8 (35 + 5) p (v8.1 (35 + 5) p + Int32.ofNat (mk_w A E r k))) (35 + 5) q ((mm_pI v8 (35 + 5) p (v8.1 (35 + 5) p + Int32.ofNat (mk_w A E r k))).1 (35 + 5) q - Int32.ofNat (mk_w A E r k))).1 35 8 + 1) = v at k9 w w2 ⊢
        obtain ⟨s0, s1, s2, s3, s4, s5, s6, s7⟩ := X8.2.2.1.1
        have XR : mk_XR A 35 (mk_lend r p q (mk_w A E r k)) v := by
          refine ⟨⟨s0, fun i hi => ?_, fun i hi => ?_, ?_, ?_, ?_, ?_, ?_⟩, fun p' q' k' h1 h2 h3 => ?_, fun p' h1 => ?_⟩
          · rw [n _ (by omega) (by omega), w, if_neg (by omega), if_neg (by omega), if_neg (by omega)]; exact s1 i hi
          · rw [n _ (by omega) (by omega), n _ (by omega) (by omega), w, w, if_neg (by omega), if_neg (by omega), if_neg (by omega), if_neg (by omega), if_neg (by omega), if_neg (by omega)]; exact s2 i hi
          · rw [n _ (by omega) (by omega), w, if_neg (by omega), if_neg (by omega), if_neg (by omega)]; exact s3
          · rw [n _ (by omega) (by omega), w, if_neg (by omega), if_neg (by omega), if_neg (by omega)]; exact s4
          · rw [n _ (by omega) (by omega), w, if_neg (by omega), if_neg (by omega), if_neg (by omega)]; exact s5
          · rw [n122, w, if_pos ⟨rfl, rfl⟩, s6]; exact mn_addl 1 _
          · rw [n _ (by omega) (by omega), w, if_neg (by omega), if_neg (by omega), if_neg (by omega)]; exact s7
          · rw [w2, n _ (by omega) (by omega)]
            exact X8.2.2.1.2.1 p' q' k' h1 h2 h3
          · have nn := X8.2.2.1.2.2
            rw [mk_lend_net (by omega) (by omega) (by omega) hpq, w, if_neg (by omega)]
            by_cases c3 : p' = p
            · rw [if_pos c3, if_neg (by omega), if_pos ⟨rfl, c3⟩, c3]
              exact congrArg (· + _) (nn p hp)
            · rw [if_neg c3]
              by_cases c4 : p' = q
              · rw [if_pos c4, if_pos ⟨rfl, c4⟩, c4]
                exact congrArg (· - _) (nn q hq)
              · rw [if_neg c4, if_neg (fun e => c4 e.2), if_neg (fun e => c3 e.2)]
                exact nn p' h1
        exact mk_ok.ret ⟨rfl, X8.row hwr k9 XR, ((mk_fM.of a2 (fun c z => by omega)).tr (mk_DXs c1 a1.2.1.1)).tr (mk_fM.of k9 (fun c z => by omega))⟩
      · unfold f_M_lend
        refine mk_ok.let ?_
        have p0 : mk_s2m h (mm_pI h 261 0 0) := mk_s2m.pI ⟨by decide, by decide⟩
        have hM1 := hM.s2 p0
        revert p0 hM1
        generalize mm_pI h 261 0 0 = h1
        intro p0 hM1
        refine wayM h1 hM1 _ _ (fun _ => ?_) (fun z => absurd (z.symm.trans hc) (by decide))
        refine mk_ok.bind (mi_keeps hw hM1) (fun v12 ⟨a1, a2⟩ => ?_)
        refine mk_ok.bind (mi_worthOf hT hW a1.1 a1.2.1 hk) (fun v14 ⟨c1, c2⟩ => ?_)
        obtain ⟨d1, d2⟩ := a1.DM c2
        have ix : mm_ix ((86 + 6 * Int32.ofNat q) + Int32.ofNat p) 123 = some (86 + 6 * q + p) := by
          rw [mn_lmul 6, mn_ladd 86, mn_add]
          exact mn_ix (k := 86 + 6 * q + p) (by omega) (by omega)
        refine mk_ok.bs ix ?_
        refine mk_ok.bs ix ?_
        simp only [mm_let]
        have k9 : mk_ch (fun c => c = 301) v14.2 (mm_pI (mm_pI v14.2 301 (86 + 6 * q + p) (v14.2.1 301 (86 + 6 * q + p) + v14.1)) 301 122 ((mm_pI v14.2 301 (86 + 6 * q + p) (v14.2.1 301 (86 + 6 * q + p) + v14.1)).1 301 122 + 1)) := (mk_ch.pI (D := fun c => c = 301) rfl).tr (mk_ch.pI (D := fun c => c = 301) rfl) (fun _ q => q) (fun _ q => q)
        refine mk_ok.ret ⟨c1, d1.row k9 (fun j hj => ?_), (((mk_fX.s2 p0).tr a2).tr d2).tr (mk_fX.of k9 (fun c z => by omega))⟩
        have rj := d1.2.1 j hj
        rw [mp_I1, mp_I1, mp_I1, if_neg (show ¬ (301 = 301 ∧ 122 = 86 + 6 * q + p) by omega)]
        by_cases j1 : j = 122
        · rw [if_pos ⟨rfl, j1⟩, j1, n122, d1.2.1 122 (by omega)]; exact mn_addl 1 _
        · rw [if_neg (fun e => j1 e.2)]
          by_cases j2 : j = 86 + 6 * q + p
          · rw [if_pos ⟨rfl, j2⟩, j2, npq, c1, d1.2.1 (86 + 6 * q + p) (by omega), mn_add]
          · rw [if_neg (fun e => j2 e.2), n j j2 j1]; exact rj
    · have hc' : mk_ml A r p q k = false := by simpa using hc
      refine ⟨-1, r, u, t, hw, fun h hX => ?_, fun h hM => ?_⟩
      · unfold f_X_lend
        refine mk_ok.bs (mx_gT hX.1.1 hX.2.1.1) ?_
        refine mk_ok.bs (mx_mayLend1 hT hX.2.1 hW hX.2.2.1.1 h2 hp hq hk) ?_
        rw [hc', if_pos (by decide)]
        exact mk_ok.ret ⟨rfl, hX, mk_fM.rf⟩
      · unfold f_M_lend
        refine mk_ok.let ?_
        have p0 : mk_s2m h (mm_pI h 261 0 0) := mk_s2m.pI ⟨by decide, by decide⟩
        have hM1 := hM.s2 p0
        revert p0 hM1
        generalize mm_pI h 261 0 0 = h1
        intro p0 hM1
        exact wayM h1 hM1 _ _ (fun z => absurd (z.symm.trans hc') (by decide)) (fun _ => ⟨rfl, hM1, mk_fX.s2 p0⟩)
  · refine ⟨-1, r, u, t, hw, fun h hX => ?_, fun h hM => ?_⟩
    · unfold f_X_lend
      refine mk_ok.bs (mx_gT hX.1.1 hX.2.1.1) ?_
      refine mk_ok.bs (mx_mayLend0 hT hX.2.1 hX.2.2.1.1 hv) ?_
      rw [if_pos rfl]
      exact mk_ok.ret ⟨rfl, hX, mk_fM.rf⟩
    · unfold f_M_lend
      refine mk_ok.let ?_
      have p0 : mk_s2m h (mm_pI h 261 0 0) := mk_s2m.pI ⟨by decide, by decide⟩
      have hM1 := hM.s2 p0
      revert p0 hM1
      generalize mm_pI h 261 0 0 = h1
      intro p0 hM1
      rw [mi_areTwo hT hM1.1]
      by_cases h2 : mk_two A x1 x2
      · rw [if_pos h2]
        refine mk_ok.bs rfl ?_
        rw [if_neg (by decide), mi_isSecret hT hM1.1, if_neg (fun z => hv ⟨h2, z⟩)]
        refine mk_ok.bs rfl ?_
        rw [if_pos rfl]
        exact mk_ok.ret ⟨rfl, hM1, mk_fX.s2 p0⟩
      · rw [if_neg h2]
        refine mk_ok.bs rfl ?_
        rw [if_pos rfl]
        exact mk_ok.ret ⟨rfl, hM1, mk_fX.s2 p0⟩
/-! undo -/
def mk_und (u : mk_U) : mk_U := fun c => if c = 0 then (fun j => if j = 0 then u 0 0 - 1 else if j = 1 then (u 0 1 + 15) % 16 else u 0 j) else u c
theorem mc_undo : mk_call f_X_undo f_M_undo := by
  refine mk_callof (fun A E t r u hw => ?_)
  have hT := hw.1
  have hW := hw.2.1
  obtain ⟨w3, w4, w5⟩ := hw.2.2.1
  by_cases hd : u 0 0 = 0
  · refine ⟨0, r, u, t, hw, fun h hX => ?_, fun h hM => ?_⟩
    · unfold f_X_undo
      rw [hX.2.2.2.1.1, hd, if_neg (by decide)]
      exact mk_ok.ret ⟨rfl, hX, mk_fM.rf⟩
    · unfold f_M_undo
      refine mk_ok.let ?_
      have p0 : mk_s2m h (mm_pI h 261 0 0) := mk_s2m.pI ⟨by decide, by decide⟩
      have hM1 := hM.s2 p0
      revert p0 hM1
      generalize mm_pI h 261 0 0 = h1
      intro p0 hM1
      rw [hM1.2.2.1.1, hd, if_pos (by decide)]
      exact mk_ok.ret ⟨rfl, hM1, mk_fX.s2 p0⟩
  · have uu : ∀ c, ¬ c = 0 → mk_und u c = u c := fun c hc => if_neg hc
    have hi : ∀ c, 30 ≤ c → mk_und u c = u c := fun c hc => uu c (by omega)
    have u00 : mk_und u 0 0 = u 0 0 - 1 := rfl
    have u01 : mk_und u 0 1 = (u 0 1 + 15) % 16 := rfl
    have u02 : mk_und u 0 2 = u 0 2 := rfl
    have hwu : mk_wf A (u (u 0 0)) (mk_und u) := by
      obtain ⟨v1, v2, -, ⟨v6, v7⟩, v8, v9, v10, v11⟩ := hw
      refine ⟨v1, ?_, ⟨by rw [u00]; omega, by rw [u01]; omega, fun i hi2 => ?_⟩, ⟨v6, fun m hm hb => ?_⟩, v8.to hi, ?_, ?_, ?_⟩
      · have := w5 (u 0 0 - 1) (by omega)
        rwa [show 1 + (u 0 0 - 1) = u 0 0 by omega] at this
      · rw [u00] at hi2
        rw [uu _ (by omega)]
        exact w5 i (by omega)
      · rw [uu _ (by omega)]
        exact ⟨(v7 m hm hb).1, (v7 m hm hb).2.to hi⟩
      · rw [uu _ (by omega), uu _ (by omega)]; exact v9
      · intro p hp
        rw [uu _ (by omega)]; exact v10 p hp
      · intro p hp
        rw [uu _ (by omega)]; exact v11 p hp
    refine ⟨1, u (u 0 0), mk_und u, t, hwu, fun h hX => ?_, fun h hM => ?_⟩
    · obtain ⟨⟨x0, x0'⟩, x1, x2, ⟨x3, x4, x5⟩, ⟨x6, x7⟩, x8, x9, x10⟩ := hX
      have ht := x1.1
      unfold f_X_undo
      have n1 : Int32.ofNat (u 0 0) - 1 = Int32.ofNat (u 0 0 - 1) := mn_on1 hd
      have n2 : f_JM_floorMod (Int32.ofNat (u 0 1) - 1) 16 = some (Int32.ofNat ((u 0 1 + 15) % 16)) := (by decide +kernel : ∀ e : Nat, e < 16 → f_JM_floorMod (Int32.ofNat e - 1) 16 = some (Int32.ofNat ((e + 15) % 16))) _ w4
      rw [x3, if_pos ((mn_llt (b := 0) (show u 0 0 < 2147483648 by omega) (by decide)).mpr (Nat.pos_of_ne_zero hd)), n1]
      simp only [mm_let]
      have e17 : (mm_pI h 32 16 (Int32.ofNat (u 0 0 - 1))).1 32 17 = Int32.ofNat (u 0 1) := by rw [mp_I1, if_neg (by omega), x4]
      rw [e17, n2]
      refine mk_ok.bs rfl ?_
      have k0 : mk_ch (fun c => c = 32) h (mm_pI (mm_pI h 32 16 (Int32.ofNat (u 0 0 - 1))) 32 17 (Int32.ofNat ((u 0 1 + 15) % 16))) := (mk_ch.pI (D := fun c => c = 32) rfl).tr (mk_ch.pI (D := fun c => c = 32) rfl) (fun _ q => q) (fun _ q => q)
      have g16 : (mm_pI (mm_pI h 32 16 (Int32.ofNat (u 0 0 - 1))) 32 17 (Int32.ofNat ((u 0 1 + 15) % 16))).1 32 16 = Int32.ofNat (u 0 0 - 1) := by rw [mp_I1, if_neg (by omega), mp_I1, if_pos ⟨rfl, rfl⟩]
      have g17 : (mm_pI (mm_pI h 32 16 (Int32.ofNat (u 0 0 - 1))) 32 17 (Int32.ofNat ((u 0 1 + 15) % 16))).1 32 17 = Int32.ofNat ((u 0 1 + 15) % 16) := by rw [mp_I1, if_pos ⟨rfl, rfl⟩]
      have g18 : (mm_pI (mm_pI h 32 16 (Int32.ofNat (u 0 0 - 1))) 32 17 (Int32.ofNat ((u 0 1 + 15) % 16))).1 32 18 = Int32.ofNat (u 0 2) := by rw [mp_I1, if_neg (by omega), mp_I1, if_neg (by omega), x6]
      generalize mm_pI (mm_pI h 32 16 (Int32.ofNat (u 0 0 - 1))) 32 17 (Int32.ofNat ((u 0 1 + 15) % 16)) = g at k0 g16 g17 g18 ⊢
      rw [g17]
      refine mk_ok.bs (mn_ix (Nat.mod_lt _ (by omega)) (by omega)) ?_
      have idx : (u 0 1 + 16 - u 0 0 + (u 0 0 - 1)) % 16 = (u 0 1 + 15) % 16 := by omega
      have src := (x5 (u 0 0 - 1) (by omega)).ch k0 (fun c q => by omega)
      rw [idx, show 1 + (u 0 0 - 1) = u 0 0 by omega] at src
      refine mk_ok.bind (mx_copyFrom hT src mk_ftags.2.2.2.2.2.2.1 (by omega)) (fun v12 ⟨c1, c2⟩ => ?_)
      have k : mk_ch (fun c => c = 32 ∨ (35 ≤ c ∧ c ≤ 40)) h v12 := k0.tr c1 (fun c q => Or.inl q) (fun c q => by omega)
      refine mk_ok.ret ⟨rfl, ⟨⟨by rw [k.2]; exact x0, by rw [k.2]; exact x0'⟩, x1.ch k (fun j q => by omega), c2, ⟨?_, ?_, fun i hi2 => ?_⟩, ⟨?_, fun m hm hb => ?_⟩, ?_, ?_, ?_⟩, mk_fM.of k (fun c q => by omega)⟩
      · rw [c1.e1 (by omega)]; exact g16
      · rw [c1.e1 (by omega)]; exact g17
      · rw [u00] at hi2
        rw [uu (1 + i) (by omega), u00, u01]
        have ei : ((u 0 1 + 15) % 16 + 16 - (u 0 0 - 1) + i) % 16 = (u 0 1 + 16 - u 0 0 + i) % 16 := by omega
        rw [ei]
        exact (x5 i (by omega)).ch k (fun c q => by omega)
      · rw [c1.e1 (by omega)]; exact g18
      · rw [u02] at hb
        rw [uu _ (by omega)]
        exact ⟨(x7 m hm hb).1.ch k (fun j q => by omega), ((x7 m hm hb).2.ch k (fun j q => by omega)).to hi⟩
      · exact (x8.ch k (fun j q => by omega)).to hi
      · unfold mk_PX
        rw [uu _ (by omega), uu _ (by omega)]
        exact x9.ch k ⟨by omega, by omega⟩
      · have := x10.ch k ⟨by omega, by omega⟩
        exact ⟨fun p hp => by rw [uu _ (by omega)]; exact this.1 p hp, fun p hp => by rw [uu _ (by omega)]; exact this.2 p hp⟩
    · unfold f_M_undo
      refine mk_ok.let ?_
      have p0 : mk_s2m h (mm_pI h 261 0 0) := mk_s2m.pI ⟨by decide, by decide⟩
      have hM1 := hM.s2 p0
      revert p0 hM1
      generalize mm_pI h 261 0 0 = h1
      intro p0 hM1
      obtain ⟨m1, m2, ⟨m3, m4⟩, m5, m6, m7, m8⟩ := hM1
      rw [m3, if_neg (fun z => hd ((mn_eql (b := 0) (show u 0 0 < 4294967296 by omega) (by decide)).mp z)), mn_on1 hd]
      simp only [mm_let]
      have e55 : (mm_pI h1 261 55 (Int32.ofNat (u 0 0 - 1))).1 261 55 = Int32.ofNat (u 0 0 - 1) := by rw [mp_I1, if_pos ⟨rfl, rfl⟩]
      rw [e55, mn_lmul 123]
      show mk_ok ((f_M_copies 304 (Int32.ofNat (123 * (u 0 0 - 1))) 301 (Int32.ofNat 0) _).bind _) _
      refine mk_ok.bind (mi_copies mk_ptag.2.2.2.2.2 mk_ptag.2.2.1 (by decide) (by omega) (by omega) (by omega)) (fun v6 ⟨y1, y2⟩ => ?_)
      have w : ∀ c j, ¬ c = 301 → ¬ (c = 261 ∧ j = 55) → v6.1 c j = h1.1 c j := fun c j h1' h2 => by
        rw [y2, if_neg (fun q => h1' q.1), mp_I1, if_neg h2]
      have k : mk_ch (fun c => c = 301 ∨ c = 261) h1 v6 := ⟨fun c hc => ⟨funext fun j => w c j (fun q => hc (Or.inl q)) (fun q => hc (Or.inr q.1)), by rw [y1]; rfl⟩, by rw [y1]; rfl⟩
      refine mk_ok.ret ⟨rfl, ⟨m1.ch k (fun j q => by omega), fun j hj => ?_, ⟨?_, fun i hi2 j hj => ?_⟩, ?_, ?_, ?_, ?_⟩, (mk_fX.s2 p0).tr (mk_fX.of k (fun c q => by omega))⟩
      · rw [y2, if_pos ⟨rfl, by omega, by omega⟩, mp_I1, if_neg (by omega), show 123 * (u 0 0 - 1) + (j - 0) = 123 * (u 0 0 - 1) + j by omega, m4 (u 0 0 - 1) (by omega) j hj, show 1 + (u 0 0 - 1) = u 0 0 by omega]
      · rw [y2, if_neg (by omega), e55]; rfl
      · rw [u00] at hi2
        rw [uu _ (by omega), w _ _ (by omega) (by omega)]
        exact m4 i (by omega) j hj
      · intro m hm
        have := (m5.ch k (fun j q => by omega)) m hm
        rw [u02]
        refine ⟨this.1, fun hb => ⟨?_, (this.2 hb).2.to hi⟩⟩
        rw [uu _ (by omega)]
        exact (this.2 hb).1
      · exact (m6.ch k (fun j q => by omega)).to hi
      · unfold mk_PM
        rw [uu _ (by omega), uu _ (by omega), w 261 1 (by omega) (by omega), k.e1 (c := 262) (by omega)]
        exact m7
      · have := m8.ch k ⟨by omega, by omega⟩
        exact ⟨fun p hp => by rw [uu _ (by omega)]; exact this.1 p hp, fun p hp => by rw [uu _ (by omega)]; exact this.2 p hp⟩
