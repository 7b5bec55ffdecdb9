/-! a quarter's payments, both sides; the years in pure words -/
def mk_qd (A : mk_A) (E : mk_E) (r : Nat → Nat) : Nat → (Nat → Nat)
  | 0 => r
  | n + 1 => if A 268 n = 0 then mk_qd A E r n else if mk_LS A E (mk_qd A E r n) n = 0 then mk_qd A E r n else mk_pay (mk_qd A E r n) n (mk_LS A E (mk_qd A E r n) n - 1)
theorem mk_qd_eq {A : mk_A} {E : mk_E} {r : Nat → Nat} : ∀ n j, ¬ j = 77 → ¬ j = 78 → mk_qd A E r n j = r j
  | 0, _, _, _ => rfl
  | n + 1, j, h1, h2 => by
    have ih := mk_qd_eq (A := A) (E := E) (r := r) n j h1 h2
    unfold mk_qd
    by_cases c1 : A 268 n = 0
    · rw [if_pos c1]; exact ih
    rw [if_neg c1]
    by_cases c2 : mk_LS A E (mk_qd A E r n) n = 0
    · rw [if_pos c2]; exact ih
    rw [if_neg c2]
    unfold mk_pay
    rw [if_neg h1, if_neg h2]; exact ih
theorem mk_LS_lt {A : mk_A} {E : mk_E} {r : Nat → Nat} {p : Nat} (h : ¬ mk_LS A E r p = 0) : mk_LS A E r p - 1 < 2 ^ A 263 1 ∧ 0 < mk_LS A E r p - 1 := mk_cp_lt ((mk_LS_bst A E r p).2 h).1
theorem mk_qd_W {A : mk_A} {E : mk_E} {r : Nat → Nat} (hT : mk_T A) (hW : mk_W A r) : ∀ n, n ≤ A 263 0 → mk_W A (mk_qd A E r n)
  | 0, _ => hW
  | n + 1, h => by
    have ih := mk_qd_W (E := E) hT hW n (by omega)
    unfold mk_qd
    by_cases c1 : A 268 n = 0
    · rw [if_pos c1]; exact ih
    rw [if_neg c1]
    by_cases c2 : mk_LS A E (mk_qd A E r n) n = 0
    · rw [if_pos c2]; exact ih
    rw [if_neg c2]
    exact mk_pay_W (E := E) hT ih (by omega) (mk_LS_lt c2).1
def mk_DQ (t c : Nat) : Prop := c = 65 ∨ c = 41 ∨ c = 45 ∨ c = 76 ∨ c = t + 16
theorem mx_qDay {A : mk_A} {E : mk_E} {t : Nat} {r : Nat → Nat} {h : mm_H} (hT : mk_T A) (hW : mk_W A r) (hh : h.2.2 32 14 = some t) (hX : mk_XT A E t h) (hS : mk_XS A 41 r h) (hA : mk_XA A 41 r h) :
    mk_ok (f_X_quarterDay h) (fun v => v.1 = Int32.ofNat (mk_owes A (mk_qd A E r (A 263 0))) ∧ mk_ch (mk_DQ t) h v.2 ∧ mk_XS A 41 (mk_pass A (mk_qd A E r (A 263 0))) v.2 ∧ mk_XA A 41 (mk_pass A (mk_qd A E r (A 263 0))) v.2) := by
  have ht := hX.1
  have hP := hT.1.1
  have hS1 := hT.1.2.1
  unfold f_X_quarterDay
  refine mk_ok.bs (mx_gT hh ht) ?_
  refine mk_ok.bind (mx_weighed hT hW hh hX (Or.inr rfl) hS) (fun v4 ⟨c1, c2⟩ => ?_)
  have X4 := hX.ch c1 (mk_DX1 hX)
  have S4 := hS.ch c1 (fun j q => by have := mk_DX2 hX (Or.inr rfl : mk_sa 41) j q; omega)
  refine mk_ok.bind (mx_weighSets hT X4 c2) (fun v6 ⟨d1, d2⟩ => ?_)
  have X6 := X4.ch d1 (fun c z => by omega)
  have S6 := S4.ch d1 (fun c z => by omega)
  have hh6 : v6.2.2 32 14 = some t := by rw [d1.2, c1.2]; exact hh
  have c1' : mk_ch (mk_DQ t) h v4 := c1.mono (fun c z => by unfold mk_DX at z; unfold mk_DQ; omega)
  have k6 : mk_ch (mk_DQ t) h v6 := c1'.tr d1 (fun _ z => z) (fun c z => by unfold mk_DQ; omega)
  refine mk_ok.bind (mk_ok.for (ρ := mm_H) (A 263 0) (fun i (s : Int32 × mm_H) => s.1 = Int32.ofNat i ∧ mk_ch (fun c => c = 41) v6 s.2 ∧ mk_XS A 41 (mk_qd A E r i) s.2) (Q := fun v : mm_H => mk_ch (fun c => c = 41) v6 v ∧ mk_XS A 41 (mk_qd A E r (A 263 0)) v) ⟨rfl, mk_ch.rf, S6⟩ (fun i s hi ⟨e1, q1, q2⟩ => ?_) (fun s ⟨e1, q1, q2⟩ => ?_)) (fun v10 ⟨b1, b2⟩ => ?_)
  · have X' := X6.ch q1 (fun c z => by omega)
    have hh' : s.2.2.2 32 14 = some t := by rw [q1.2]; exact hh6
    have W' := mk_qd_W (E := E) hT hW i (by omega)
    have es : mk_qd A E r (i + 1) = if A 268 i = 0 then mk_qd A E r i else if mk_LS A E (mk_qd A E r i) i = 0 then mk_qd A E r i else mk_pay (mk_qd A E r i) i (mk_LS A E (mk_qd A E r i) i - 1) := rfl
    have w65 : ∀ x, x < 2 ^ A 263 1 → s.2.1 65 x = Int32.ofNat (mk_ws A E (mk_qd A E r i) x) := fun x hx => by
      rw [q1.e1 (by omega), d2 x hx, mk_ws_congr hT (fun j hj => mk_qd_eq i j (by omega) (by omega))]
    refine mk_ok.bs (mx_gT hh' ht) ?_
    rw [X'.2.1.1, e1, if_neg (fun z => absurd ((mn_le (by omega) (by omega)).mp z) (show ¬ A 263 0 ≤ i by omega)), es]
    refine mk_ok.bs (mx_gT hh' ht) ?_
    refine mk_ok.bs (mn_ix (show i < 6 by omega) (by omega)) ?_
    have tx : s.2.1 (t + 4) i = Int32.ofNat (A 268 i) := (X'.2.2.1 i hi).2.2
    have t9 := (hT.2.1 i hi).2.2
    rw [tx]
    have LSl : mk_LS A E (mk_qd A E r i) i ≤ 2 ^ A 263 1 := mk_lst_le _
    have h1k := mk_pow10 hS1
    generalize hb : mk_LS A E (mk_qd A E r i) i = b at LSl
    refine mk_ok.bs (v := if A 268 i = 0 then -1 else Int32.ofNat b - 1) ?_ ?_
    · by_cases c1 : A 268 i = 0
      · rw [if_pos ((mn_lel (b := 0) (show A 268 i < 2147483648 by omega) (by decide)).mpr (show A 268 i ≤ 0 by omega)), if_pos c1]
      · rw [if_neg (fun z => absurd ((mn_lel (b := 0) (show A 268 i < 2147483648 by omega) (by decide)).mp z) (show ¬ A 268 i ≤ 0 by omega)), if_neg c1, mk_bs (mx_gT hh' ht), mk_bs (mx_fewest hT X' W' q2 w65 hi), hb]
    refine mk_ok.bind (Q := fun v : mm_H => mk_ch (fun c => c = 41) v6 v ∧ mk_XS A 41 (if A 268 i = 0 then mk_qd A E r i else if b = 0 then mk_qd A E r i else mk_pay (mk_qd A E r i) i (b - 1)) v) ?_ (fun v q => ?_)
    · by_cases c1 : A 268 i = 0
      · rw [if_pos c1, if_pos c1, if_pos rfl]
        exact mk_ok.ret ⟨q1, q2⟩
      · rw [if_neg c1, if_neg c1]
        by_cases c2 : b = 0
        · rw [if_pos ((mn_rm2 (by omega)).mpr c2), if_pos c2]
          exact mk_ok.ret ⟨q1, q2⟩
        · rw [if_neg (fun z => c2 ((mn_rm2 (by omega)).mp z)), if_neg c2, mn_on1 c2]
          refine mk_ok.bind (mx_take hT q2 hi) (fun v31 ⟨g1, g2, g3, g4⟩ => ?_)
          exact mk_ok.ret ⟨q1.tr g1 (fun _ z => z) (fun _ z => z), g2⟩
    · refine mk_ok.let ?_
      rw [mn_addl 1]
      exact mk_ok.inl ⟨rfl, q⟩
  · have X' := X6.ch q1 (fun c z => by omega)
    refine mk_ok.bs (mx_gT (by rw [q1.2]; exact hh6) ht) ?_
    rw [X'.2.1.1, e1, if_pos (Int32.le_refl _)]
    exact mk_ok.inr ⟨q1, q2⟩
  have X10 := X6.ch b1 (fun c z => by omega)
  have W' := mk_qd_W (E := E) hT hW (A 263 0) (Nat.le_refl _)
  refine mk_ok.bs (mx_gT (by rw [b1.2]; exact hh6) ht) ?_
  refine mk_ok.bind (mx_endQuarter hT W' X10 (Or.inr rfl) b2) (fun v45 ⟨g1, g2, g3, g4⟩ => ?_)
  have kk : mk_ch (mk_DQ t) h v45.2 := (k6.tr b1 (fun _ z => z) (fun c z => by unfold mk_DQ; omega)).tr g2 (fun _ z => z) (fun c z => by unfold mk_DQ; omega)
  refine mk_ok.ret ⟨g1, kk, g3, fun p' q' k' h1 h2 h3 => ?_⟩
  have z : mk_pass A (mk_qd A E r (A 263 0)) (10 + 10 * p' + k') = r (10 + 10 * p' + k') := by
    unfold mk_pass
    rw [if_neg (by omega), if_neg (by omega), if_neg (by omega)]
    exact mk_qd_eq _ _ (by omega) (by omega)
  show (v45.2.2.1 (41 + 2) p').toBitVec.getLsbD (q' * 10 + k') = (mk_pass A (mk_qd A E r (A 263 0)) (10 + 10 * p' + k')).testBit q'
  rw [z, kk.e2 (fun y => by unfold mk_DQ at y; omega)]
  exact hA p' q' k' h1 h2 h3
/-- told, fined, the row, the seed behind n years -/
def mk_yr (A : mk_A) (E : mk_E) (r : Nat → Nat) (g : Nat) : Nat → Nat × Nat × (Nat → Nat) × Nat
  | 0 => (0, 0, r, g)
  | n + 1 => if (1 + n) % 10 = 0 then ((mk_yr A E r g n).1 + (mk_wh A (mk_yr A E r g n).2.2.1 (mk_yr A E r g n).2.2.2 (A 263 2)).1, (mk_yr A E r g n).2.1 + mk_pc (mk_owes A (mk_qd A E (mk_wh A (mk_yr A E r g n).2.2.1 (mk_yr A E r g n).2.2.2 (A 263 2)).2.1 (A 263 0))), mk_pass A (mk_qd A E (mk_wh A (mk_yr A E r g n).2.2.1 (mk_yr A E r g n).2.2.2 (A 263 2)).2.1 (A 263 0)), (mk_wh A (mk_yr A E r g n).2.2.1 (mk_yr A E r g n).2.2.2 (A 263 2)).2.2) else ((mk_yr A E r g n).1 + (mk_wh A (mk_yr A E r g n).2.2.1 (mk_yr A E r g n).2.2.2 (A 263 2)).1, (mk_yr A E r g n).2.1, (mk_wh A (mk_yr A E r g n).2.2.1 (mk_yr A E r g n).2.2.2 (A 263 2)).2.1, (mk_wh A (mk_yr A E r g n).2.2.1 (mk_yr A E r g n).2.2.2 (A 263 2)).2.2)
theorem mk_yr_W {A : mk_A} {E : mk_E} {r : Nat → Nat} {g : Nat} (hT : mk_T A) (hW : mk_W A r) (hg : g < 2147483648) : ∀ n, mk_W A (mk_yr A E r g n).2.2.1 ∧ (mk_yr A E r g n).2.2.2 < 2147483648
  | 0 => ⟨hW, hg⟩
  | n + 1 => by
    obtain ⟨a, b⟩ := mk_yr_W (E := E) hT hW hg n
    obtain ⟨c, d⟩ := mk_wh_W hT a b (A 263 2) (Nat.le_refl _)
    unfold mk_yr
    split
    · exact ⟨mk_pass_W hT (mk_qd_W (E := E) hT c _ (Nat.le_refl _)), d⟩
    · exact ⟨c, d⟩
theorem mk_ue_F {A : mk_A} {r : Nat → Nat} {g e : Nat} (hT : mk_T A) (he : e < A 263 2) : mk_F (mk_ue A r g e).2.1 = mk_F r := by
  obtain ⟨e1, e2, e3, e4⟩ := hT.2.2.2.1 e he
  have hP := hT.1.1
  have hS1 := hT.1.2.1
  unfold mk_ue
  by_cases c1 : mk_cc A e ≤ mk_dr g 10
  · rw [if_pos c1]
  rw [if_neg c1]
  by_cases c2 : A 263 1 = 0
  · rw [if_pos c2]
  rw [if_neg c2]
  have hk : mk_dr (mk_nxt g) (A 263 1) < A 263 1 := Nat.mod_lt _ (by omega)
  by_cases c3 : mk_ct A r (A 275 e) (A 276 e) (mk_dr (mk_nxt g) (A 263 1)) = true
  · rw [if_pos c3]
    refine mk_F_congr (fun j h1 h2 => ?_)
    show mk_tell A r _ _ _ j = _
    unfold mk_tell
    rw [if_neg (by omega), if_neg (by omega), if_neg (by omega), if_neg (by omega)]
  · rw [if_neg c3]
theorem mk_wh_F {A : mk_A} {r : Nat → Nat} {g : Nat} (hT : mk_T A) : ∀ n, n ≤ A 263 2 → mk_F (mk_wh A r g n).2.1 = mk_F r
  | 0, _ => rfl
  | n + 1, h => (mk_ue_F hT (by omega)).trans (mk_wh_F hT n (by omega))
theorem mk_yr_F {A : mk_A} {E : mk_E} {r : Nat → Nat} {g : Nat} (hT : mk_T A) : ∀ n, mk_F (mk_yr A E r g n).2.2.1 = mk_F r + (mk_yr A E r g n).2.1
  | 0 => rfl
  | n + 1 => by
    have ih := mk_yr_F (E := E) (r := r) (g := g) hT n
    have w := mk_wh_F (r := (mk_yr A E r g n).2.2.1) (g := (mk_yr A E r g n).2.2.2) hT (A 263 2) (Nat.le_refl _)
    unfold mk_yr
    split
    · dsimp only
      rw [mk_F_pass hT.1.1, mk_F_congr (fun j h1 h2 => mk_qd_eq _ j (by omega) (by omega)), w, ih]
      omega
    · dsimp only
      rw [w, ih]
theorem mi_qDay {A : mk_A} {E : mk_E} {r : Nat → Nat} {h : mm_H} (hT : mk_T A) (hW : mk_W A r) (hM : mk_MT A E h) (hR : mk_MR r h) :
    mk_ok ((mm_while (σ := (Int32 × mm_H)) (ρ := mm_H) (fun s27 => if (s27.2.1 263 0) ≤ s27.1 then (some (Sum.inr s27.2)) else ((mm_ix s27.1 12).bind fun k33 => (if (s27.2.1 268 k33) ≤ 0 then (some ((-1), s27.2)) else ((f_M_leastOf s27.1 s27.2).bind fun v38 => some (v38.1, v38.2)) : Option (Int32 × mm_H)).bind fun j35 => (if j35.1 ≤ 0 then (some j35.2) else ((f_M_pays s27.1 j35.1 j35.2).bind fun v45 => some v45) : Option mm_H).bind fun j42 => mm_let (s27.1 + 1) fun y49 => some (Sum.inl (y49, j42)))) (0, h)).bind fun v30 => (f_M_passes v30).bind fun v57 => some v57.2) (fun v => mk_ch mk_DK h v ∧ mk_MR (mk_pass A (mk_qd A E r (A 263 0))) v) := by
  have hP := hT.1.1
  have hS1 := hT.1.2.1
  have h1k := mk_pow10 hS1
  have DM1 : ∀ c, mk_DK c → c = 301 ∨ (281 ≤ c ∧ c ≤ 292) := fun c z => by unfold mk_DK mk_DM at z; omega
  have mM : ∀ {v}, mk_ch mk_DK h v → mk_MT A E v := fun k => hM.ch k (fun c z => by have := DM1 c z; omega)
  refine mk_ok.bind (mk_ok.for (ρ := mm_H) (A 263 0) (fun i (s : Int32 × mm_H) => s.1 = Int32.ofNat i ∧ mk_ch mk_DK h s.2 ∧ mk_MR (mk_qd A E r i) s.2) (Q := fun v : mm_H => mk_ch mk_DK h v ∧ mk_MR (mk_qd A E r (A 263 0)) v) ⟨rfl, mk_ch.rf, hR⟩ (fun i s hi ⟨e1, q1, q2⟩ => ?_) (fun s ⟨e1, q1, q2⟩ => ?_)) (fun v30 ⟨b1, b2⟩ => ?_)
  · have M' := mM q1
    have W' := mk_qd_W (E := E) hT hW i (by omega)
    have es : mk_qd A E r (i + 1) = if A 268 i = 0 then mk_qd A E r i else if mk_LS A E (mk_qd A E r i) i = 0 then mk_qd A E r i else mk_pay (mk_qd A E r i) i (mk_LS A E (mk_qd A E r i) i - 1) := rfl
    rw [M'.1 0 (by omega), e1, if_neg (fun z => absurd ((mn_le (by omega) (by omega)).mp z) (show ¬ A 263 0 ≤ i by omega)), es]
    refine mk_ok.bs (mn_ix (show i < 12 by omega) (by omega)) ?_
    have tx : s.2.1 268 i = Int32.ofNat (A 268 i) := (M'.2.1 i (by omega)).2.2
    have t9 := (hT.2.1 i hi).2.2
    rw [tx]
    have LSl : mk_LS A E (mk_qd A E r i) i ≤ 2 ^ A 263 1 := mk_lst_le _
    by_cases c1 : A 268 i = 0
    · rw [if_pos ((mn_lel (b := 0) (show A 268 i < 2147483648 by omega) (by decide)).mpr (show A 268 i ≤ 0 by omega)), if_pos c1]
      refine mk_ok.bs rfl ?_
      refine mk_ok.bs (if_pos (show (-1 : Int32) ≤ 0 by decide)) ?_
      refine mk_ok.let ?_
      rw [mn_addl 1]
      exact mk_ok.inl ⟨rfl, q1, q2⟩
    · rw [if_neg (fun z => absurd ((mn_lel (b := 0) (show A 268 i < 2147483648 by omega) (by decide)).mp z) (show ¬ A 268 i ≤ 0 by omega)), if_neg c1]
      refine mk_ok.bind (Q := fun v : Int32 × mm_H => v.1 = Int32.ofNat (mk_LS A E (mk_qd A E r i) i) - 1 ∧ mk_ch mk_DM s.2 v.2) ?_ (fun j35 ⟨d1, d2⟩ => ?_)
      · refine mk_ok.bind (mi_leastOf hT W' M' q2 hi) (fun v q => mk_ok.ret q)
      have q1' : mk_ch mk_DK h j35.2 := q1.tr d2 (fun _ z => z) (fun c z => Or.inr z)
      have q2' : mk_MR (mk_qd A E r i) j35.2 := q2.ch d2 mk_DM2
      have lt := mk_LS_lt (A := A) (E := E) (r := mk_qd A E r i) (p := i)
      generalize mk_LS A E (mk_qd A E r i) i = b at *
      refine mk_ok.bind (Q := fun v : mm_H => mk_ch mk_DK h v ∧ mk_MR (if b = 0 then mk_qd A E r i else mk_pay (mk_qd A E r i) i (b - 1)) v) ?_ (fun v q => ?_)
      · by_cases c2 : b = 0
        · rw [d1, if_pos (by rw [c2]; decide), if_pos c2]
          exact mk_ok.ret ⟨q1', q2'⟩
        · have := lt c2
          rw [d1, mn_on1 c2, if_neg (fun z => absurd ((mn_lel (b := 0) (show b - 1 < 2147483648 by omega) (by decide)).mp z) (show ¬ b - 1 ≤ 0 by omega)), if_neg c2]
          refine mk_ok.bind (mi_pays q2' (by omega)) (fun v45 ⟨g1, g2⟩ => ?_)
          exact mk_ok.ret ⟨q1'.tr g1 (fun _ z => z) (fun c z => Or.inl z), g2⟩
      · refine mk_ok.let ?_
        rw [mn_addl 1]
        exact mk_ok.inl ⟨rfl, q⟩
  · rw [(mM q1).1 0 (by omega), e1, if_pos (Int32.le_refl _)]
    exact mk_ok.inr ⟨q1, q2⟩
  refine mk_ok.bind (mi_passes hT (mk_qd_W (E := E) hT hW _ (Nat.le_refl _)) (mM b1) b2) (fun v57 ⟨g1, g2, g3⟩ => ?_)
  exact mk_ok.ret ⟨b1.tr g2 (fun _ z => z) (fun c z => Or.inl z), g3⟩
