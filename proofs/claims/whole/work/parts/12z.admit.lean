/-! payers, the class's side -/
theorem mn_bit64' {x : Int64} {m : Nat} (hm : m < 64) : (x >>> (Int32.toInt64 (Int32.ofNat m) &&& 63)) &&& 1 = if x.toBitVec.getLsbD m = true then 1 else 0 := by
  apply Int64.toBitVec_inj.1
  have e1 : (Int32.toInt64 (Int32.ofNat m) &&& 63) = Int64.ofNat m := (by decide +kernel : ∀ j : Nat, j < 64 → (Int32.toInt64 (Int32.ofNat j) &&& 63) = Int64.ofNat j) m hm
  have e2 : (BitVec.ofNat 64 m).smod 64 = BitVec.ofNat 64 m := (by decide +kernel : ∀ j : Nat, j < 64 → (BitVec.ofNat 64 j).smod 64 = BitVec.ofNat 64 j) m hm
  rw [e1]
  show (x.toBitVec).sshiftRight' ((BitVec.ofNat 64 m).smod 64) &&& 1#64 = _
  rw [e2]
  have e3 : (BitVec.ofNat 64 m).toNat = m := by
    rw [BitVec.toNat_ofNat]
    exact Nat.mod_eq_of_lt (by omega)
  apply BitVec.eq_of_getLsbD_eq
  intro i hi
  rw [BitVec.getLsbD_and, BitVec.sshiftRight', e3, BitVec.getLsbD_sshiftRight]
  have o1 : (1#64).getLsbD i = decide (i = 0) := by
    rw [BitVec.getLsbD_ofNat, mn_t1]
    simp [hi]
  rw [o1]
  by_cases z : i = 0
  · subst z
    have l : 0 + m < 64 := by omega
    cases c : x.toBitVec.getLsbD m
    · simp [c, hm]
    · simp [c, hm]
  · rw [decide_eq_false z, Bool.and_false]
    cases c : x.toBitVec.getLsbD m
    · simp
    · have : (1 : Int64).toBitVec = 1#64 := rfl
      simp [this, o1, z]
def mk_B (h : mm_H) (s : Nat) (G : Nat → Prop) : Prop := ∀ g, g < 64 → ((h.2.1 66 s).toBitVec.getLsbD g = true ↔ G g)
theorem mk_t66 : mm_tg 66 = 21 ∧ mm_ln 66 = 1024 := ⟨by decide +kernel, by decide +kernel⟩
theorem mx_admit {A : mk_A} {E : mk_E} {r : Nat → Nat} {h : mm_H} {o n : Nat} (hT : mk_T A) (hn : n < A 263 0) (hnp : (r 78).testBit n = false) (ho : o.testBit n = true) (h65 : ∀ s, s < 2 ^ A 263 1 → h.1 65 s = Int32.ofNat (mk_ws A E r s)) (hO : ∀ s, s < 2 ^ A 263 1 → mk_B h s (fun g => mk_gr (mk_cp A E r) o n g s)) :
    mk_ok (f_Co_admit (Int32.ofNat n) (Int32.ofNat (A 268 n)) (Int32.ofNat (mk_dif (mk_kb A r n) (r 77))) (Int32.ofNat (2 ^ A 263 1 - 1)) h) (fun v => mk_ch (fun c => c = 66) h v ∧ v.1 = h.1 ∧ ∀ s, s < 2 ^ A 263 1 → mk_B v s (fun g => mk_gr (mk_cp A E r) o (n + 1) g s)) := by
  have hP := hT.1.1
  have hS1 := hT.1.2.1
  have h1k := mk_pow10 hS1
  have hpos : 0 < 2 ^ A 263 1 := Nat.two_pow_pos _
  have t9 := (hT.2.1 n hn).2.2
  have h2n : 2 ^ n ≤ 32 := Nat.pow_le_pow_right (n := 2) (by omega) (show n ≤ 5 by omega)
  have mlt : mk_dif (mk_kb A r n) (r 77) < 2 ^ A 263 1 := mk_dif_le (mk_kb_lt A r n)
  generalize hm : mk_dif (mk_kb A r n) (r 77) = m at mlt
  have cp : ∀ s, mk_cp A E r n s = true ↔ (0 < s ∧ mk_sub s m ∧ A 268 n ≤ mk_ws A E r s) := fun s => by
    unfold mk_cp
    rw [hnp, hm]
    simp only [Bool.not_false, Bool.true_and, Bool.and_eq_true, decide_eq_true_eq, mk_dif_and, mk_sub_and]
  have g0 : ∀ x : Nat, x < 2147483648 → (Int32.ofNat x).toInt.toNat = x := fun x hx => by rw [Int32.toInt_ofNat_of_lt (by omega)]; rfl
  unfold f_Co_admit
  refine mk_ok.bind (Q := fun v : mm_H => mk_ch (fun c => c = 66) h v ∧ v.1 = h.1 ∧ ∀ s, s < 2 ^ A 263 1 → mk_B v s (fun g => mk_gr (mk_cp A E r) o (n + 1) g s)) ?_ (fun v q => mk_ok.ret q)
  refine mp_loop (fun s : Int32 × mm_H => ∃ cur, s.1 = Int32.ofNat cur ∧ cur < 2 ^ A 263 1 ∧ mk_ch (fun c => c = 66) h s.2 ∧ s.2.1 = h.1 ∧ ∀ x, x < 2 ^ A 263 1 → mk_B s.2 x (fun g => if x ≤ cur then mk_gr (mk_cp A E r) o n g x else mk_gr (mk_cp A E r) o (n + 1) g x)) (fun s => s.1.toInt.toNat) _ (fun s hs => ?_) _ ⟨2 ^ A 263 1 - 1, rfl, by omega, mk_ch.rf, rfl, fun x hx g hg => by rw [hO x hx g hg]; dsimp only; rw [if_pos (by omega)]⟩
  obtain ⟨cur, e1, cl, q1, q2, q3⟩ := hs
  rw [e1]
  by_cases z : cur = 0
  · right
    rw [if_pos ((mn_lel (b := 0) (show cur < 2147483648 by omega) (by decide)).mpr (show cur ≤ 0 by omega))]
    refine ⟨_, rfl, q1, q2, fun x hx g hg => ?_⟩
    rw [q3 x hx g hg]
    dsimp only
    by_cases c : x ≤ cur
    · rw [if_pos c, mk_gr_yes ho]
      constructor
      · exact Or.inl
      · rintro (q | ⟨b, b1, b2, _⟩)
        · exact q
        · have := mk_sub_le b1
          have := ((cp b).mp b2).1
          omega
    · rw [if_neg c]
  · left
    rw [if_neg (fun y => absurd ((mn_lel (b := 0) (show cur < 2147483648 by omega) (by decide)).mp y) (show ¬ cur ≤ 0 by omega)), mn_and]
    have yl : cur &&& m ≤ cur := Nat.and_le_left
    have ym : mk_sub (cur &&& m) m := fun i hi => by rw [Nat.testBit_and, Bool.and_eq_true] at hi; exact hi.2
    have yc : mk_sub (cur &&& m) cur := fun i hi => by rw [Nat.testBit_and, Bool.and_eq_true] at hi; exact hi.1
    have yb : ∀ b, mk_sub b cur → mk_sub b m → mk_sub b (cur &&& m) := fun b b1 b2 i hi => by rw [Nat.testBit_and, b1 i hi, b2 i hi]; rfl
    have w1 := mk_ws_le (E := E) (r := r) (s := cur &&& m) hT
    have nxt0 : Int32.ofNat cur + (-1) = Int32.ofNat (cur - 1) := by rw [← mn_on1 z]; grind
    -- what the body wants
    have body : ∃ v : mm_H, ((if (s.2.1 65 (cur &&& m)) < Int32.ofNat (A 268 n) then (some s.2) else ((mm_while (σ := (Int32 × mm_H)) (ρ := mm_H) (fun s13 => if s13.1 ≤ 0 then (some (Sum.inr s13.2)) else ((mm_ix s13.1 1024).bind fun k19 => (if (s13.2.1 65 k19) < Int32.ofNat (A 268 n) then (some s13.2) else ((mm_ix (Int32.ofNat cur) 1024).bind fun k23 => (mm_ix (Int32.ofNat cur &&& (s13.1 ^^^ (-1))) 1024).bind fun k25 => (mm_ix (Int32.ofNat cur) 1024).bind fun k27 => mm_let (mm_pL s13.2 66 k27 ((s13.2.2.1 66 k23) ||| ((s13.2.2.1 66 k25) <<< (Int32.toInt64 ((1 : Int32) <<< (Int32.ofNat n &&& 31)) &&& 63)))) fun h29 => some h29) : Option mm_H).bind fun j21 => mm_let ((s13.1 - 1) &&& Int32.ofNat (cur &&& m)) fun y34 => some (Sum.inl (y34, j21)))) (Int32.ofNat (cur &&& m), s.2)).bind fun v16 => some v16) : Option mm_H)) = some v ∧ mk_ch (fun c => c = 66) h v ∧ v.1 = h.1 ∧ (∀ x, x < 2 ^ A 263 1 → ¬ x = cur → v.2.1 66 x = s.2.2.1 66 x) ∧ mk_B v cur (fun g => mk_gr (mk_cp A E r) o (n + 1) g cur) := by
      have old : mk_B s.2 cur (fun g => mk_gr (mk_cp A E r) o n g cur) := fun g hg => by rw [q3 cur cl g hg]; dsimp only; rw [if_pos (Nat.le_refl _)]
      by_cases c : mk_ws A E r (cur &&& m) < A 268 n
      · rw [q2, h65 _ (by omega), if_pos ((mn_lt (by omega) (by omega)).mpr c)]
        refine ⟨s.2, rfl, q1, q2, fun x _ _ => rfl, fun g hg => ?_⟩
        rw [old g hg]
        dsimp only
        rw [mk_gr_yes ho]
        constructor
        · exact Or.inl
        · rintro (q | ⟨b, b1, b2, _⟩)
          · exact q
          · obtain ⟨k1, k2, k3⟩ := (cp b).mp b2
            have := mk_ws_mono (A := A) (E := E) (r := r) (yb b b1 k2)
            omega
      · have e65 : s.2.1 65 (cur &&& m) = Int32.ofNat (mk_ws A E r (cur &&& m)) := by rw [q2]; exact h65 _ (by omega)
        rw [e65, if_neg (fun y => c ((mn_lt (by omega) (by omega)).mp y))]
        have L : mk_ok (mm_while (σ := (Int32 × mm_H)) (ρ := mm_H) (fun s13 => if s13.1 ≤ 0 then (some (Sum.inr s13.2)) else ((mm_ix s13.1 1024).bind fun k19 => (if (s13.2.1 65 k19) < Int32.ofNat (A 268 n) then (some s13.2) else ((mm_ix (Int32.ofNat cur) 1024).bind fun k23 => (mm_ix (Int32.ofNat cur &&& (s13.1 ^^^ (-1))) 1024).bind fun k25 => (mm_ix (Int32.ofNat cur) 1024).bind fun k27 => mm_let (mm_pL s13.2 66 k27 ((s13.2.2.1 66 k23) ||| ((s13.2.2.1 66 k25) <<< (Int32.toInt64 ((1 : Int32) <<< (Int32.ofNat n &&& 31)) &&& 63)))) fun h29 => some h29) : Option mm_H).bind fun j21 => mm_let ((s13.1 - 1) &&& Int32.ofNat (cur &&& m)) fun y34 => some (Sum.inl (y34, j21)))) (Int32.ofNat (cur &&& m), s.2)) (fun v => mk_ch (fun c => c = 66) h v ∧ v.1 = h.1 ∧ (∀ x, x < 2 ^ A 263 1 → ¬ x = cur → v.2.1 66 x = s.2.2.1 66 x) ∧ mk_B v cur (fun g => mk_gr (mk_cp A E r) o (n + 1) g cur)) := by
          refine mp_loop (fun y : Int32 × mm_H => ∃ b, y.1 = Int32.ofNat b ∧ mk_sub b (cur &&& m) ∧ mk_ch (fun c => c = 66) h y.2 ∧ y.2.1 = h.1 ∧ (∀ x, x < 2 ^ A 263 1 → ¬ x = cur → y.2.2.1 66 x = s.2.2.1 66 x) ∧ mk_B y.2 cur (fun g => mk_gr (mk_cp A E r) o n g cur ∨ ∃ x, b < x ∧ mk_sub x cur ∧ mk_cp A E r n x = true ∧ 2 ^ n ≤ g ∧ mk_gr (mk_cp A E r) o n (g - 2 ^ n) (mk_dif cur x))) (fun y => y.1.toInt.toNat) _ (fun y hy => ?_) _ ⟨_, rfl, fun _ q => q, q1, q2, fun _ _ _ => rfl, fun g hg => ?_⟩
          · obtain ⟨b, f1, f2, f3, f4, f5, f6⟩ := hy
            have bl := mk_sub_le f2
            rw [f1]
            by_cases zb : b = 0
            · right
              rw [if_pos ((mn_lel (b := 0) (show b < 2147483648 by omega) (by decide)).mpr (show b ≤ 0 by omega))]
              refine ⟨_, rfl, f3, f4, f5, fun g hg => ?_⟩
              rw [f6 g hg]
              dsimp only
              rw [mk_gr_yes ho]
              constructor
              · rintro (q | ⟨x, _, x2, x3⟩)
                · exact Or.inl q
                · exact Or.inr ⟨x, x2, x3⟩
              · rintro (q | ⟨x, x2, x3⟩)
                · exact Or.inl q
                · have := ((cp x).mp x3.1).1
                  exact Or.inr ⟨x, by omega, x2, x3⟩
            · left
              rw [if_neg (fun y => absurd ((mn_lel (b := 0) (show b < 2147483648 by omega) (by decide)).mp y) (show ¬ b ≤ 0 by omega)), mk_bs (mn_ix (show b < 1024 by omega) (by omega))]
              have eb : y.2.1 65 b = Int32.ofNat (mk_ws A E r b) := by rw [f4]; exact h65 _ (by omega)
              have wb := mk_ws_le (E := E) (r := r) (s := b) hT
              have nxt : (Int32.ofNat b - 1) &&& Int32.ofNat (cur &&& m) = Int32.ofNat ((b - 1) &&& (cur &&& m)) := by rw [mn_on1 zb, mn_and]
              have nle : (b - 1) &&& (cur &&& m) ≤ b - 1 := Nat.and_le_left
              have nsub : mk_sub ((b - 1) &&& (cur &&& m)) (cur &&& m) := mk_sub_and.mpr (by rw [Nat.and_assoc, Nat.and_self])
              have sp : ∀ x, (b - 1) &&& (cur &&& m) < x → mk_sub x (cur &&& m) → b < x ∨ x = b := fun x hx hs => by
                rcases Nat.lt_trichotomy x b with q | q | q
                · have := mk_nx b b (cur &&& m) x (Nat.le_refl _) (mk_sub_and.mp f2) (mk_sub_and.mp hs) q
                  omega
                · exact Or.inr q
                · exact Or.inl q
              have bc : mk_sub b cur := fun i hi => yc i (f2 i hi)
              have bm : mk_sub b m := fun i hi => ym i (f2 i hi)
              rw [eb, nxt]
              by_cases k : mk_ws A E r b < A 268 n
              · rw [if_pos ((mn_lt (by omega) (by omega)).mpr k)]
                refine ⟨(Int32.ofNat ((b - 1) &&& (cur &&& m)), y.2), rfl, ⟨_, rfl, nsub, f3, f4, f5, fun g hg => ?_⟩, ?_⟩
                · rw [f6 g hg]
                  dsimp only
                  constructor
                  · rintro (q | ⟨x, x1, x2⟩)
                    · exact Or.inl q
                    · exact Or.inr ⟨x, by omega, x2⟩
                  · rintro (q | ⟨x, x1, x2, x3, x4⟩)
                    · exact Or.inl q
                    · obtain ⟨k1, k2, k3⟩ := (cp x).mp x3
                      rcases sp x x1 (yb x x2 k2) with q | q
                      · exact Or.inr ⟨x, q, x2, x3, x4⟩
                      · rw [q] at k3; omega
                · show (Int32.ofNat ((b - 1) &&& (cur &&& m))).toInt.toNat < (Int32.ofNat b).toInt.toNat
                  rw [g0 _ (by omega), g0 _ (by omega)]
                  omega
              · have cb : mk_cp A E r n b = true := (cp b).mpr ⟨by omega, bm, by omega⟩
                have dl := mk_dif_lt (mk_sub_and.mp bc) (show 0 < b by omega)
                rw [if_neg (fun y => k ((mn_lt (by omega) (by omega)).mp y)), mk_bs (mn_ix (show cur < 1024 by omega) (by omega)), mn_dif, mk_bs (mn_ix (show mk_dif cur b < 1024 by omega) (by omega)), mk_bs (mn_ix (show cur < 1024 by omega) (by omega))]
                refine ⟨_, rfl, ⟨_, rfl, nsub, f3.tr (mk_ch.pL (D := fun c => c = 66) rfl) (fun _ z => z) (fun _ z => z), f4, fun x hx hne => ?_, fun g hg => ?_⟩, ?_⟩
                · rw [mp_L2, if_neg (fun q => hne q.2)]; exact f5 x hx hne
                · rw [mp_L2, if_pos ⟨rfl, rfl⟩, mn_or64, mn_shl64' (by omega) hg, f5 (mk_dif cur b) (by omega) (by omega), Bool.or_eq_true, Bool.and_eq_true, decide_eq_true_eq, f6 g hg, q3 (mk_dif cur b) (by omega) (g - 2 ^ n) (Nat.lt_of_le_of_lt (Nat.sub_le _ _) hg)]
                  dsimp only
                  rw [if_pos (show mk_dif cur b ≤ cur by omega)]
                  constructor
                  · rintro ((q | ⟨x, x1, x2⟩) | ⟨q, q'⟩)
                    · exact Or.inl q
                    · exact Or.inr ⟨x, by omega, x2⟩
                    · exact Or.inr ⟨b, by omega, bc, cb, q, q'⟩
                  · rintro (q | ⟨x, x1, x2, x3, x4, x5⟩)
                    · exact Or.inl (Or.inl q)
                    · obtain ⟨k1, k2, k3⟩ := (cp x).mp x3
                      rcases sp x x1 (yb x x2 k2) with q | q
                      · exact Or.inl (Or.inr ⟨x, q, x2, x3, x4, x5⟩)
                      · subst q; exact Or.inr ⟨x4, x5⟩
                · show (Int32.ofNat ((b - 1) &&& (cur &&& m))).toInt.toNat < (Int32.ofNat b).toInt.toNat
                  rw [g0 _ (by omega), g0 _ (by omega)]
                  omega
          · rw [old g hg]
            dsimp only
            constructor
            · exact Or.inl
            · rintro (q | ⟨x, x1, x2, x3, _⟩)
              · exact q
              · have := mk_sub_le (yb x x2 ((cp x).mp x3).2.1)
                omega
        obtain ⟨v, ev, hv⟩ := L
        exact ⟨v, by rw [mk_bs ev], hv⟩
    obtain ⟨v, ev, v1, v2, v3, v4⟩ := body
    refine ⟨(Int32.ofNat (cur - 1), v), ?_, ⟨cur - 1, rfl, by omega, v1, v2, fun x hx g hg => ?_⟩, ?_⟩
    · show mm_let (Int32.ofNat (cur &&& m)) _ = _
      simp only [mm_let]
      rw [mk_bs (mn_ix (show cur &&& m < 1024 by omega) (by omega))]
      simp only [mm_let] at ev
      rw [mk_bs ev, nxt0]
    · by_cases e : x = cur
      · subst e
        rw [v4 g hg]
        dsimp only
        rw [if_neg (by omega)]
      · rw [v3 x hx e, q3 x hx g hg]
        dsimp only
        by_cases l : x ≤ cur
        · rw [if_pos l, if_pos (by omega)]
        · rw [if_neg l, if_neg (by omega)]
    · show (Int32.ofNat (cur - 1)).toInt.toNat < (Int32.ofNat cur).toInt.toNat
      rw [g0 _ (by omega), g0 _ (by omega)]
      omega
