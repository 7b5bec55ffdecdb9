/-! judged, both sides -/
def mk_run (A : mk_A) (E : mk_E) (u : mk_U) : Nat → Nat × (Nat → Nat)
  | 0 => (0, mk_fresh A)
  | n + 1 => (if (mk_run A E u n).1 = 0 ∧ (mk_go A E (mk_run A E u n).2 (u 31 n) (u 32 n) (u 33 n) (u 34 n)).1 = false then n + 1 else (mk_run A E u n).1, (mk_go A E (mk_run A E u n).2 (u 31 n) (u 32 n) (u 33 n) (u 34 n)).2)
theorem mk_TW.lw {A : mk_A} {u : mk_U} (q : mk_TW A u 0) {k : Nat} (hk : k < u 30 0) : mk_lw A (u 31 k) (u 32 k) (u 33 k) (u 34 k) := by
  obtain ⟨a, b, c, d⟩ := q.2.2.1 k hk
  exact ⟨a, b, c, d⟩
theorem mk_run_W {A : mk_A} {E : mk_E} {u : mk_U} (hT : mk_T A) (q : mk_TW A u 0) : ∀ n, n ≤ u 30 0 → mk_W A (mk_run A E u n).2
  | 0, _ => mk_fresh_W hT
  | n + 1, h => mk_go_W hT (mk_run_W hT q n (by omega)) (q.lw (by omega))
theorem mk_run_le {A : mk_A} {E : mk_E} {u : mk_U} : ∀ n, (mk_run A E u n).1 ≤ n
  | 0 => Nat.le_refl _
  | n + 1 => by
    have := mk_run_le (A := A) (E := E) (u := u) n
    show (if _ then n + 1 else (mk_run A E u n).1) ≤ n + 1
    split
    · exact Nat.le_refl _
    · exact Nat.le_succ_of_le this
def mk_F (r : Nat → Nat) : Nat := mk_sum (fun p => r (79 + p)) 6
theorem mk_F_congr {r r' : Nat → Nat} (h : ∀ j, 79 ≤ j → j ≤ 84 → r' j = r j) : mk_F r' = mk_F r := mk_sum_congr (fun p hp => h _ (by omega) (by omega))
theorem mk_F_pass {A : mk_A} {r : Nat → Nat} (hP : A 263 0 ≤ 6) : mk_F (mk_pass A r) = mk_F r + mk_pc (mk_owes A r) := by
  have e : ∀ p, p < 6 → mk_pass A r (79 + p) = r (79 + p) + ((mk_owes A r).testBit p).toNat := fun p hp => by
    unfold mk_pass mk_owes
    rw [mk_set_bit]
    by_cases h : p < A 263 0
    · rw [if_pos (by omega), decide_eq_true h, Bool.true_and, show 79 + p - 79 = p by omega]
    · rw [if_neg (by omega), if_neg (by omega), if_neg (by omega), decide_eq_false h, Bool.false_and]; rfl
  have z : ∀ p, 6 ≤ p → ((mk_owes A r).testBit p).toNat = 0 := fun p hp => by
    unfold mk_owes
    rw [mk_set_bit, decide_eq_false (by omega), Bool.false_and]; rfl
  have z6 := z 6 (by omega)
  have z7 := z 7 (by omega)
  have z8 := z 8 (by omega)
  have z9 := z 9 (by omega)
  have e0 := e 0 (by omega)
  have e1 := e 1 (by omega)
  have e2 := e 2 (by omega)
  have e3 := e 3 (by omega)
  have e4 := e 4 (by omega)
  have e5 := e 5 (by omega)
  unfold mk_F mk_pc
  simp only [mk_sum, mk_cnt]
  omega
theorem mk_F_go {A : mk_A} {E : mk_E} {r : Nat → Nat} (hT : mk_T A) {d w v x : Nat} (hl : mk_lw A d w v x) : mk_F (mk_go A E r d w v x).2 = if d = 3 then mk_F r + mk_pc (mk_owes A r) else mk_F r := by
  obtain ⟨l0, l1, l2, l3⟩ := hl
  have hP := hT.1.1
  have hS := hT.1.2.1
  unfold mk_go
  by_cases d0 : d = 0
  · have hw := l1 (by omega)
    obtain ⟨hv, _, hx⟩ := l2 d0
    rw [if_pos d0, if_neg (show ¬ d = 3 by omega)]
    by_cases c : mk_ct A r w v x = true
    · rw [if_pos c]
      refine mk_F_congr (fun j h1 h2 => ?_)
      show mk_tell A r w v x j = _
      unfold mk_tell
      rw [if_neg (by omega), if_neg (by omega), if_neg (by omega), if_neg (by omega)]
    · rw [if_neg c]
  rw [if_neg d0]
  by_cases d1 : d = 1
  · rw [if_pos d1, if_neg (show ¬ d = 3 by omega)]
    by_cases c : mk_cp A E r w x = true
    · rw [if_pos c]
      refine mk_F_congr (fun j h1 h2 => ?_)
      show mk_pay r w x j = _
      unfold mk_pay
      rw [if_neg (by omega), if_neg (by omega)]
    · rw [if_neg c]
  rw [if_neg d1]
  by_cases d2 : d = 2
  · have hw := l1 (by omega)
    rw [if_pos d2, if_neg (show ¬ d = 3 by omega)]
    by_cases c : r (70 + w) < 9
    · rw [if_pos c]
      refine mk_F_congr (fun j h1 h2 => ?_)
      show mk_rise r w j = _
      unfold mk_rise
      rw [if_neg (by omega)]
    · rw [if_neg c]
  rw [if_neg d2, if_pos (show d = 3 by omega)]
  exact mk_F_pass hP
theorem mk_F_run {A : mk_A} {E : mk_E} {u : mk_U} (hT : mk_T A) (q : mk_TW A u 0) : ∀ n, n ≤ u 30 0 → mk_F (mk_run A E u n).2 ≤ 10 * n
  | 0, _ => by
    have hP := hT.1.1
    have hS := hT.1.2.1
    have : mk_F (mk_fresh A) = 0 := by
      have e : ∀ j, 79 ≤ j → j ≤ 84 → mk_fresh A j = 0 := fun j h1 h2 => by
        unfold mk_fresh; rw [if_neg (by omega), if_neg (by omega)]
      have := mk_F_congr (r := fun _ => 0) e
      rw [this]; rfl
    show mk_F (mk_fresh A) ≤ 10 * 0
    omega
  | n + 1, h => by
    have := mk_F_run (E := E) hT q n (by omega)
    have e := mk_F_go (E := E) (r := (mk_run A E u n).2) hT (q.lw (show n < u 30 0 by omega))
    have := mk_pc_le (mk_owes A (mk_run A E u n).2)
    show mk_F (mk_go A E (mk_run A E u n).2 (u 31 n) (u 32 n) (u 33 n) (u 34 n)).2 ≤ 10 * (n + 1)
    rw [e]
    split <;> omega
def mk_DJ (t : Nat) (c : Nat) : Prop := mk_DL t c ∨ c = 78
theorem mk_DJ1 {t : Nat} (ht : t = 79 ∨ t = 96) {c : Nat} (q : mk_DJ t c) : (41 ≤ c ∧ c ≤ 46) ∨ c = 76 ∨ c = t + 16 ∨ c = 78 := by
  unfold mk_DJ mk_DL mk_DX at q
  omega
theorem mn_rm {a : Nat} (ha : a < 1000) : (Int32.ofNat a - 1 = -1) ↔ a = 0 := by
  constructor
  · intro z
    have : Int32.ofNat a = Int32.ofNat 0 := by
      show Int32.ofNat a = 0
      grind
    exact (mn_eq (by omega) (by omega)).mp this
  · intro z; subst z; rfl
theorem mn_rp {a : Nat} (ha : a < 1000) : (0 ≤ Int32.ofNat a - 1) ↔ ¬ a = 0 := by
  by_cases h : a = 0
  · subst h; decide
  · rw [mn_on1 h]
    exact ⟨fun _ => h, fun _ => (mn_lle (b := 0) (show a - 1 < 2147483648 by omega) (by decide)).mpr (Nat.zero_le _)⟩
theorem mx_judge {A : mk_A} {E : mk_E} {t : Nat} {r : Nat → Nat} {u : mk_U} {h : mm_H} (hw : mk_wf A r u) (hX : mk_X A E t r u h) : mk_ok (f_X_judge h) (fun v => mk_ch (mk_DJ t) h v ∧ v.1 78 0 = Int32.ofNat (mk_run A E u (u 30 0)).1 - 1 ∧ v.1 78 1 = Int32.ofNat (mk_F (mk_run A E u (u 30 0)).2) ∧ v.1 78 2 = Int32.ofNat (mk_ws A E (mk_run A E u (u 30 0)).2 (2 ^ A 263 1 - 1))) := by
  have hT := hw.1
  have hP := hT.1.1
  have hS1 := hT.1.2.1
  have hTW := hw.2.2.2.2.1
  have hn : u 30 0 ≤ 30 := hTW.1
  have hXT := hX.2.1
  have ht := hXT.1
  have hTX := hX.2.2.2.2.2.1
  have e47 : h.1 47 0 = Int32.ofNat (u 30 0) := hTX.1
  have h14 := hX.1.1
  unfold f_X_judge
  refine mk_ok.bs (mx_gT h14 ht) ?_
  refine mk_ok.bind (mx_begin hT hXT (Or.inr rfl)) (fun v4 ⟨a1, a2⟩ => ?_)
  refine mk_ok.let ?_
  refine mk_ok.let ?_
  have D41 : ∀ c, (41 ≤ c ∧ c ≤ 41 + 5) → mk_DJ t c := fun c z => Or.inl (Or.inl (by omega))
  have D78 : mk_DJ t 78 := Or.inr rfl
  have k0 : mk_ch (mk_DJ t) h (mm_pI (mm_pI v4 78 0 (-1)) 78 1 0) := ((a1.mono D41).tr (mk_ch.pI (D := mk_DJ t) D78) (fun _ z => z) (fun _ z => z)).tr (mk_ch.pI (D := mk_DJ t) D78) (fun _ z => z) (fun _ z => z)
  have k78 : mk_ch (fun c => c = 78) v4 (mm_pI (mm_pI v4 78 0 (-1)) 78 1 0) := (mk_ch.pI (D := fun c => c = 78) rfl).tr (mk_ch.pI (D := fun c => c = 78) rfl) (fun _ z => z) (fun _ z => z)
  have F0 : mk_F (mk_fresh A) = 0 := by have := mk_F_run (E := E) hT hTW 0 (by omega); exact Nat.le_zero.mp this
  refine mk_ok.bind (mk_ok.for (ρ := mm_H) (Q := fun v => mk_ch (mk_DJ t) h v ∧ mk_XS A 41 (mk_run A E u (u 30 0)).2 v ∧ mk_XA A 41 (mk_run A E u (u 30 0)).2 v ∧ v.1 78 0 = Int32.ofNat (mk_run A E u (u 30 0)).1 - 1 ∧ v.1 78 1 = Int32.ofNat (mk_F (mk_run A E u (u 30 0)).2)) (u 30 0) (fun i s => s.1 = Int32.ofNat i ∧ mk_ch (mk_DJ t) h s.2 ∧ mk_XS A 41 (mk_run A E u i).2 s.2 ∧ mk_XA A 41 (mk_run A E u i).2 s.2 ∧ s.2.1 78 0 = Int32.ofNat (mk_run A E u i).1 - 1 ∧ s.2.1 78 1 = Int32.ofNat (mk_F (mk_run A E u i).2)) ⟨rfl, k0, a2.1.ch k78 (fun c z => by omega), a2.2.1.ch k78 (by omega), ?_, ?_⟩ (fun i s hi ⟨e1, q1, q2, q3, q4, q5⟩ => ?_) (fun s ⟨e1, q1, q2, q3, q4, q5⟩ => ?_)) (fun v12 ⟨b1, b2, b3, b4, b5⟩ => ?_)
  · show (mm_pI (mm_pI v4 78 0 (-1)) 78 1 0).1 78 0 = _
    rw [mp_I1, if_neg (by omega), mp_I1, if_pos ⟨rfl, rfl⟩]; rfl
  · show (mm_pI (mm_pI v4 78 0 (-1)) 78 1 0).1 78 1 = _
    rw [mp_I1, if_pos ⟨rfl, rfl⟩]
    show _ = Int32.ofNat (mk_F (mk_fresh A))
    rw [F0]; rfl
  · have n47 : ∀ c, 47 ≤ c → c ≤ 51 → s.2.1 c = h.1 c := fun c h1 h2 => q1.e1 (fun z => by have := mk_DJ1 ht z; omega)
    have hl := hTW.lw hi
    have hl3 := hl.1
    obtain ⟨f0, f1, f2, f3⟩ := hTX.2.2.1 i hi
    have f0' : s.2.1 48 i = Int32.ofNat (u 31 i) := by rw [n47 48 (by omega) (by omega)]; exact f0
    have X' := hXT.ch q1 (fun c z => by have := mk_DJ1 ht z; omega)
    have h14' : s.2.2.2 32 14 = some t := by rw [q1.2]; exact h14
    have W' := mk_run_W (E := E) hT hTW i (by omega)
    have FL := mk_F_run (E := E) hT hTW i (by omega)
    have RL := mk_run_le (A := A) (E := E) (u := u) i
    have FG := mk_F_go (E := E) (r := (mk_run A E u i).2) hT hl
    rw [e1, n47 47 (by omega) (by omega), e47, if_neg (fun z => absurd ((mn_le (by omega) (by omega)).mp z) (show ¬ u 30 0 ≤ i by omega))]
    refine mk_ok.bs (mn_ix (by omega) (by omega)) ?_
    rw [f0']
    by_cases d3 : u 31 i = 3
    · rw [if_pos ((mn_eql (b := 3) (show u 31 i < 4294967296 by omega) (by decide)).mpr d3)]
      have eg : mk_go A E (mk_run A E u i).2 (u 31 i) (u 32 i) (u 33 i) (u 34 i) = (true, mk_pass A (mk_run A E u i).2) := by
        unfold mk_go
        rw [if_neg (by omega), if_neg (by omega), if_neg (by omega)]
      have er : mk_run A E u (i + 1) = ((mk_run A E u i).1, mk_pass A (mk_run A E u i).2) := by
        show (if _ then i + 1 else (mk_run A E u i).1, _) = _
        rw [eg, if_neg (fun z => Bool.noConfusion z.2)]
      rw [eg, if_pos d3] at FG
      have ob : mk_owes A (mk_run A E u i).2 < 1024 := Nat.lt_of_lt_of_le (mk_p2 hP (mk_set_lt _ _)) (by decide)
      have pl := mk_pc_le (mk_owes A (mk_run A E u i).2)
      refine mk_ok.bind (Q := fun v => mk_ch (mk_DJ t) h v ∧ mk_XS A 41 (mk_run A E u (i + 1)).2 v ∧ mk_XA A 41 (mk_run A E u (i + 1)).2 v ∧ v.1 78 0 = Int32.ofNat (mk_run A E u (i + 1)).1 - 1 ∧ v.1 78 1 = Int32.ofNat (mk_F (mk_run A E u (i + 1)).2)) ?_ (fun j17 q => ?_)
      · refine mk_ok.bs (mx_gT h14' ht) ?_
        refine mk_ok.bind (mx_endQuarter hT W' X' (Or.inr rfl) q2) (fun v32 ⟨c1, c2, c3, c4⟩ => ?_)
        rw [c1]
        refine mk_ok.bs (mn_bc ob) ?_
        refine mk_ok.let ?_
        rw [q5, mn_add, er]
        have kk : mk_ch (fun c => c = 78) v32.2 (mm_pI v32.2 78 1 (Int32.ofNat (mk_F (mk_run A E u i).2 + mk_pc (mk_owes A (mk_run A E u i).2)))) := mk_ch.pI (D := fun c => c = 78) rfl
        refine mk_ok.ret ⟨(q1.tr c2 (fun _ z => z) (fun c z => Or.inl (Or.inl (by omega)))).tr kk (fun _ z => z) (fun c z => Or.inr z), c3.ch kk (fun c z => by omega), fun p' q' k' h1 h2 h3 => ?_, ?_, ?_⟩
        · have z : mk_pass A (mk_run A E u i).2 (10 + 10 * p' + k') = (mk_run A E u i).2 (10 + 10 * p' + k') := by unfold mk_pass; rw [if_neg (by omega), if_neg (by omega), if_neg (by omega)]
          show (v32.2.2.1 (41 + 2) p').toBitVec.getLsbD (q' * 10 + k') = (mk_pass A (mk_run A E u i).2 (10 + 10 * p' + k')).testBit q'
          rw [z, c4]
          exact q3 p' q' k' h1 h2 h3
        · rw [mp_I1, if_neg (by omega), c2.e1 (by omega)]
          exact q4
        · rw [mp_I1, if_pos ⟨rfl, rfl⟩]
          show _ = Int32.ofNat (mk_F (mk_pass A (mk_run A E u i).2))
          rw [FG]
      · refine mk_ok.let ?_
        rw [mn_addl 1]
        exact mk_ok.inl ⟨rfl, q⟩
    · rw [if_neg (fun z => d3 ((mn_eql (b := 3) (show u 31 i < 4294967296 by omega) (by decide)).mp z))]
      rw [if_neg d3] at FG
      have er : mk_run A E u (i + 1) = (if (mk_run A E u i).1 = 0 ∧ (mk_go A E (mk_run A E u i).2 (u 31 i) (u 32 i) (u 33 i) (u 34 i)).1 = false then i + 1 else (mk_run A E u i).1, (mk_go A E (mk_run A E u i).2 (u 31 i) (u 32 i) (u 33 i) (u 34 i)).2) := rfl
      refine mk_ok.bind (Q := fun v => mk_ch (mk_DJ t) h v ∧ mk_XS A 41 (mk_run A E u (i + 1)).2 v ∧ mk_XA A 41 (mk_run A E u (i + 1)).2 v ∧ v.1 78 0 = Int32.ofNat (mk_run A E u (i + 1)).1 - 1 ∧ v.1 78 1 = Int32.ofNat (mk_F (mk_run A E u (i + 1)).2)) ?_ (fun j17 q => ?_)
      · refine mk_ok.bind (mx_tryLine hT W' h14' X' q2 q3 (show i < 30 by omega) hl d3 f0' (by rw [n47 49 (by omega) (by omega)]; exact f1 d3) (fun z => by rw [n47 50 (by omega) (by omega)]; exact f2 z) (fun z => by rw [n47 51 (by omega) (by omega)]; exact f3 z)) (fun v20 ⟨c1, c2, c3, c4⟩ => ?_)
        have n78 : ∀ j, v20.2.1 78 j = s.2.1 78 j := fun j => by rw [c2.e1 (fun z => by have := mk_DJ1 ht (Or.inl z : mk_DJ t 78); unfold mk_DL mk_DX at z; omega)]
        have kc := q1.tr c2 (fun _ z => z) (fun c z => (Or.inl z : mk_DJ t c))
        rw [c1, er]
        generalize mk_go A E (mk_run A E u i).2 (u 31 i) (u 32 i) (u 33 i) (u 34 i) = g at c1 c3 c4 FG ⊢
        obtain ⟨g1, g2⟩ := g
        dsimp only at c1 c3 c4 FG ⊢
        cases g1
        · rw [if_pos (by decide), n78, q4]
          by_cases z : (mk_run A E u i).1 = 0
          · rw [if_pos ((mn_rm (by omega)).mpr z), if_pos ⟨z, rfl⟩]
            have kk : mk_ch (fun c => c = 78) v20.2 (mm_pI v20.2 78 0 (Int32.ofNat i)) := mk_ch.pI (D := fun c => c = 78) rfl
            refine mk_ok.let ?_
            refine mk_ok.ret ⟨kc.tr kk (fun _ z => z) (fun c z => Or.inr z), c3.ch kk (fun c z => by omega), c4.ch kk (by omega), ?_, ?_⟩
            · rw [mp_I1, if_pos ⟨rfl, rfl⟩, mn_on1 (by omega)]; rfl
            · rw [mp_I1, if_neg (by omega), n78, q5, FG]
          · rw [if_neg (fun y => z ((mn_rm (by omega)).mp y)), if_neg (fun y => z y.1)]
            exact mk_ok.ret ⟨kc, c3, c4, by rw [n78]; exact q4, by rw [n78, q5, FG]⟩
        · rw [if_neg (by decide), if_neg (fun y => absurd y.2 (by decide))]
          exact mk_ok.ret ⟨kc, c3, c4, by rw [n78]; exact q4, by rw [n78, q5, FG]⟩
      · refine mk_ok.let ?_
        rw [mn_addl 1]
        exact mk_ok.inl ⟨rfl, q⟩
  · have n47 : s.2.1 47 = h.1 47 := q1.e1 (fun z => by have := mk_DJ1 ht z; omega)
    rw [e1, n47, e47, if_pos (Int32.le_refl _)]
    exact mk_ok.inr ⟨q1, q2, q3, q4, q5⟩
  have X12 := hXT.ch b1 (fun c z => by have := mk_DJ1 ht z; omega)
  have h14' : v12.2.2 32 14 = some t := by rw [b1.2]; exact h14
  have W' := mk_run_W (E := E) hT hTW _ (Nat.le_refl _)
  refine mk_ok.bind (mx_weighed hT W' h14' X12 (Or.inr rfl) b2) (fun v47 ⟨c1, c2⟩ => ?_)
  have X47 := X12.ch c1 (mk_DX1 X12)
  refine mk_ok.bs (mx_gT (by rw [c1.2]; exact h14') ht) ?_
  have eall : f_To_allSecrets t v47 = some (Int32.ofNat (2 ^ A 263 1 - 1)) := by
    unfold f_To_allSecrets
    rw [if_pos (mk_tt ht).1, X47.2.1.2.1, mk_all hS1]
  refine mk_ok.bs eall ?_
  refine mk_ok.bs (mx_together hT c2 mk_all_lt) ?_
  refine mk_ok.let ?_
  have kk : mk_ch (fun c => c = 78) v47 (mm_pI v47 78 2 (Int32.ofNat (mk_ws A E (mk_run A E u (u 30 0)).2 (2 ^ A 263 1 - 1)))) := mk_ch.pI (D := fun c => c = 78) rfl
  have n78 : ∀ j, v47.1 78 j = v12.1 78 j := fun j => by rw [c1.e1 (fun z => by unfold mk_DX at z; omega)]
  refine mk_ok.ret ⟨(b1.tr c1 (fun _ z => z) (fun c z => Or.inl (Or.inr z))).tr kk (fun _ z => z) (fun c z => Or.inr z), ?_, ?_, ?_⟩
  · rw [mp_I1, if_neg (by omega), n78]; exact b4
  · rw [mp_I1, if_neg (by omega), n78]; exact b5
  · rw [mp_I1, if_pos ⟨rfl, rfl⟩]
