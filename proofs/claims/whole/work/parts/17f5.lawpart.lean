/-! the law of worth read: a part -/
section MP
variable {s : mk_S} {b m k : Nat} {h : mm_H}
/-- what a part begins with: 0 a number, 1 to 4 a fact, 5 not, 6 an opening -/
def mv_pk (s : mk_S) (b q : Nat) : Prop := (q = 0 ∧ mk_kd s b = 2) ∨ (1 ≤ q ∧ q ≤ 4 ∧ mk_isw s b (23 + q)) ∨ (q = 5 ∧ mk_isw s b 21) ∨ (q = 6 ∧ mk_iss s b 40 = true)
theorem mv_pk_lt {q : Nat} (h : mv_pk s b q) : b < s.1 := by
  rcases h with ⟨_, h⟩ | ⟨_, _, h⟩ | ⟨_, h⟩ | ⟨_, h⟩
  · exact (mk_kd_2 h).1
  · exact (mk_kd_1 h.1).1
  · exact (mk_kd_1 h.1).1
  · exact mk_kd_3 (mk_iss_3 h).1
theorem mv_w24 : mk_k27 24 = 70517 ∧ mk_k27 25 = 4470938551 ∧ mk_k27 26 = 923 ∧ mk_k27 27 = 164222 := by decide +kernel
theorem mi_fact (T : mk_TKM s b h) : (∀ q, 1 ≤ q → q ≤ 4 → mk_isw s b (23 + q) → f_M_fact h = some (Int32.ofNat q)) ∧ ((∀ q, 1 ≤ q → q ≤ 4 → ¬ mk_isw s b (23 + q)) → f_M_fact h = some 0) := by
  have k1 : (Int32.ofNat (mk_kd s b) = 1) ↔ mk_kd s b = 1 := mn_eql (b := 1) (show mk_kd s b < 4294967296 by have := mk_kd_le s b; omega) (by decide)
  unfold f_M_fact
  rw [T.2.2.2.2.2.1]
  by_cases k : mk_kd s b = 1
  · have yes : ∀ i, i < 28 → mk_isw s b i → lg_cmp (Int64.ofNat (mk_c27 (mk_wd s b))) (mk_k27 i) = 0 := fun i hi z => (mp_lcmp _ _).mpr ((mk_isw_M hi k).mpr z)
    have no : ∀ i, i < 28 → ¬ mk_isw s b i → ¬ lg_cmp (Int64.ofNat (mk_c27 (mk_wd s b))) (mk_k27 i) = 0 := fun i hi n z => n ((mk_isw_M hi k).mp ((mp_lcmp _ _).mp z))
    have other : ∀ {i j : Nat}, i < 28 → j < 28 → mk_isw s b i → ¬ i = j → ¬ mk_isw s b j := fun hi hj a n z => n (mk_isw_inj hi hj a z)
    rw [if_pos (k1.mpr k), T.2.2.2.2.2.2.1 k]
    obtain ⟨w1, w2, w3, w4⟩ := mv_w24
    rw [← w1, ← w2, ← w3, ← w4]
    refine ⟨fun q q1 q4 z => ?_, fun z => ?_⟩
    · have : q = 1 ∨ q = 2 ∨ q = 3 ∨ q = 4 := by omega
      rcases this with rfl | rfl | rfl | rfl
      · rw [if_pos (yes 24 (by omega) z)]; rfl
      · rw [if_neg (no 24 (by omega) (other (by omega) (by omega) z (by omega))), if_pos (yes 25 (by omega) z)]; rfl
      · rw [if_neg (no 24 (by omega) (other (by omega) (by omega) z (by omega))), if_neg (no 25 (by omega) (other (by omega) (by omega) z (by omega))), if_pos (yes 26 (by omega) z)]; rfl
      · rw [if_neg (no 24 (by omega) (other (by omega) (by omega) z (by omega))), if_neg (no 25 (by omega) (other (by omega) (by omega) z (by omega))), if_neg (no 26 (by omega) (other (by omega) (by omega) z (by omega))), if_pos (yes 27 (by omega) z)]; rfl
    · rw [if_neg (no 24 (by omega) (z 1 (by omega) (by omega))), if_neg (no 25 (by omega) (z 2 (by omega) (by omega))), if_neg (no 26 (by omega) (z 3 (by omega) (by omega))), if_neg (no 27 (by omega) (z 4 (by omega) (by omega)))]
  · rw [if_neg (fun z => k (k1.mp z))]
    exact ⟨fun q _ _ z => absurd z.1 k, fun _ => rfl⟩
/-- the reference's questions at a part's begin -/
theorem mv_ask {q : Nat} (hs : mk_sgs s) (T : mk_TKM s b h) (p : mv_pk s b q) : f_M_fact h = some (if 1 ≤ q ∧ q ≤ 4 then Int32.ofNat q else 0) ∧ f_M_isWord 10631 h = some (if q = 5 then 1 else 0) ∧ f_M_isSign 40 h = some (if q = 6 then 1 else 0) ∧ (q = 0 → h.1 261 6 = 2) := by
  have w21 := mi_isWord (i := 21) T (by omega)
  rw [mv_w22.2.2] at w21
  have i40 := mi_isSign (c := 40) hs T (by decide)
  have fa := mi_fact T
  have w6 := T.2.2.2.2.2.1
  rcases p with ⟨rfl, p⟩ | ⟨p1, p2, p⟩ | ⟨rfl, p⟩ | ⟨rfl, p⟩
  · have n1 : ∀ i, ¬ mk_isw s b i := fun i z => by have := z.1; omega
    refine ⟨fa.2 (fun q _ _ => n1 _), w21.2 (n1 21), ?_, fun _ => by rw [w6, p]; rfl⟩
    rw [mk_iss_k (c := 40) (by omega)] at i40
    exact i40
  · refine ⟨?_, ?_, ?_, fun z => by omega⟩
    · rw [if_pos ⟨p1, p2⟩]; exact fa.1 q p1 p2 p
    · rw [if_neg (by omega)]
      exact w21.2 (fun z => absurd (mk_isw_inj (by omega) (by omega) z p) (by omega))
    · rw [if_neg (by omega)]
      rw [mk_iss_k (c := 40) (by rw [p.1]; omega)] at i40
      exact i40
  · refine ⟨fa.2 (fun q q1 q2 z => absurd (mk_isw_inj (by omega) (by omega) z p) (by omega)), w21.1 p, ?_, fun z => by omega⟩
    rw [mk_iss_k (c := 40) (by rw [p.1]; omega)] at i40
    exact i40
  · have n1 : ∀ i, ¬ mk_isw s b i := fun i z => by have := z.1; have := (mk_iss_3 p).1; omega
    refine ⟨fa.2 (fun q _ _ => n1 _), w21.2 (n1 21), ?_, fun z => by omega⟩
    rw [p] at i40
    exact i40
theorem mv_pt169 {q : Nat} {x : Int32} (hs : mk_sgs s) (T : mk_TKM s b h) (p : mv_pk s b q) : mv_R (x, 1, h) = mv_k169 (x, 1, h) (if 1 ≤ q ∧ q ≤ 4 then Int32.ofNat q else 0) (if q = 5 then 1 else 0) (if q = 6 then 1 else 0) := by
  obtain ⟨a1, a2, a3, a4⟩ := mv_ask hs T p
  unfold mv_R
  rw [if_neg (show ¬ (1 : Int32) = 0 by decide)]
  unfold mv_pt
  refine (mk_bs a1).trans ((mk_bs a2).trans ((mk_bs a3).trans ?_))
  have q6 : q ≤ 6 := by
    rcases p with ⟨rfl, _⟩ | ⟨_, _, _⟩ | ⟨rfl, _⟩ | ⟨rfl, _⟩ <;> omega
  by_cases c : 1 ≤ q ∧ q ≤ 4
  · rw [if_pos c]
    have : ¬ Int32.ofNat q = 0 := fun z => absurd ((mn_eql (b := 0) (show q < 4294967296 by omega) (by decide)).mp z) (show ¬ q = 0 by omega)
    rw [if_neg this]
  · rw [if_neg c, if_pos rfl]
    by_cases c5 : q = 5
    · rw [if_pos c5, if_neg (by decide)]
    · rw [if_neg c5, if_pos rfl]
      by_cases c6 : q = 6
      · rw [if_pos c6, if_neg (by decide)]
      · rw [if_neg c6, if_pos rfl]
        dsimp only
        rw [if_pos (a4 (by omega))]
/-- five deep -/
theorem mv_pt5 {q : Nat} (hs : mk_sgs s) (T : mk_TKM s b h) (p : mv_pk s b q) : ∃ c, mm_while mv_R (5, 1, h) = some (0, c) ∧ mk_FM (mk_fv 5 b) h c := by
  obtain ⟨v, e1, e2, e3⟩ := mi_fails (k := 5) T
  refine ⟨v.2, mm_while_inr ?_, e3⟩
  rw [mv_pt169 hs T p]
  unfold mv_k169
  dsimp only
  rw [if_pos rfl]
  refine (mk_bs (show f_M_fails 5 h = some v from e1)).trans ?_
  rw [e2]; rfl
/-- no part -/
theorem mv_pt0 {x : Int32} (hs : mk_sgs s) (T : mk_TKM s b h) (p : ∀ q, ¬ mv_pk s b q) : ∃ c, mm_while mv_R (x, 1, h) = some (0, c) ∧ mk_FM (mk_fv 1 b) h c := by
  obtain ⟨v, e1, e2, e3⟩ := mi_fails (k := 1) T
  refine ⟨v.2, mm_while_inr ?_, e3⟩
  have w21 := mi_isWord (i := 21) T (by omega)
  rw [mv_w22.2.2] at w21
  have i40 := mi_isSign (c := 40) hs T (by decide)
  have n40 : mk_iss s b 40 = false := by
    cases c : mk_iss s b 40
    · rfl
    · exact absurd (Or.inr (Or.inr (Or.inr ⟨rfl, c⟩))) (p 6)
  rw [n40] at i40
  unfold mv_R
  rw [if_neg (show ¬ (1 : Int32) = 0 by decide)]
  unfold mv_pt
  refine (mk_bs ((mi_fact T).2 (fun q q1 q4 z => p q (Or.inr (Or.inl ⟨q1, q4, z⟩))))).trans ?_
  refine (mk_bs (w21.2 (fun z => p 5 (Or.inr (Or.inr (Or.inl ⟨rfl, z⟩)))))).trans ?_
  refine (mk_bs i40).trans ?_
  rw [if_pos rfl, if_pos rfl, if_pos (by decide)]
  dsimp only
  rw [T.2.2.2.2.2.1, if_neg (fun z => p 0 (Or.inl ⟨rfl, (mn_eql (b := 2) (show mk_kd s b < 4294967296 by have := mk_kd_le s b; omega) (by decide)).mp z⟩))]
  refine (mk_bs (show f_M_fails 1 h = some v from e1)).trans ?_
  rw [e2]; rfl
/-- a number, a fact -/
theorem mv_ptv {q : Nat} (hs : mk_sgs s) (hk : k < 5) (T : mk_TKM s b h) (e : h.1 261 28 = Int32.ofNat (1000 + m)) (hm : m < 1000) (p : mv_pk s b q) (q4 : q ≤ 4) : ∃ h', mm_while mv_R (Int32.ofNat k, 1, h) = mm_while mv_R (Int32.ofNat (mv_po (h.1 281) k), 0, h') ∧ mv_MS s b m 7 7 (if 1 ≤ q then Int32.ofNat q else 100 + Int32.ofNat (mk_nu s b)) h h' := by
  obtain ⟨h', p1, p2⟩ := mv_putk (c := if 1 ≤ q then Int32.ofNat q else 100 + Int32.ofNat (mk_nu s b)) (y := Int32.ofNat (mv_po (h.1 281) k)) (z := 0) hs T e hm
  refine ⟨h', mm_while_inl ?_, p2⟩
  rw [mv_pt169 hs T p]
  unfold mv_k169
  dsimp only
  rw [if_neg (fun z => absurd ((mn_eql (b := 5) (show k < 4294967296 by omega) (by decide)).mp z) (show ¬ k = 5 by omega)), if_neg (show ¬ q = 5 by omega), if_neg (show ¬ q = 6 by omega), if_pos rfl, if_pos rfl]
  rw [mk_bs (mi_puts (c := if 1 ≤ q then Int32.ofNat q else 100 + Int32.ofNat (mk_nu s b)) e hm)] at p1
  refine Eq.trans (mk_bs (v := (Int32.ofNat (mv_po (h.1 281) k), 0, mm_pI (mm_pI h 280 (1000 + m) (if 1 ≤ q then Int32.ofNat q else 100 + Int32.ofNat (mk_nu s b))) 261 28 (Int32.ofNat (1000 + (m + 1))))) ?_) p1
  refine (mk_bs (v := if 1 ≤ q then Int32.ofNat q else 100 + Int32.ofNat (mk_nu s b)) ?_).trans ?_
  · by_cases c : 1 ≤ q
    · have F : (if 1 ≤ q ∧ q ≤ 4 then Int32.ofNat q else (0 : Int32)) = Int32.ofNat q := if_pos ⟨c, q4⟩
      rw [F, if_pos c, if_neg (fun z => absurd ((mn_lel (b := 0) (show q < 2147483648 by omega) (by decide)).mp z) (show ¬ q ≤ 0 by omega))]
    · have F : (if 1 ≤ q ∧ q ≤ 4 then Int32.ofNat q else (0 : Int32)) = 0 := if_neg (fun z => c z.1)
      rw [F, if_neg c, if_pos (show (0 : Int32) ≤ 0 by decide)]
      have kd : mk_kd s b = 2 := by
        rcases p with ⟨_, z⟩ | ⟨z, _, _⟩ | ⟨z, _⟩ | ⟨z, _⟩
        · exact z
        · omega
        · omega
        · omega
      rw [T.2.2.2.2.2.2.2 kd]
  · rw [mk_bs (mi_puts e hm), mk_bs (mv_popw_is k (by omega))]
    have : ∀ c, mv_po ((mm_pI (mm_pI h 280 (1000 + m) c) 261 28 (Int32.ofNat (1000 + (m + 1)))).1 281) k = mv_po (h.1 281) k := fun c => mv_po.cg k (fun j _ => by rw [mp_I1, if_neg (by omega), mp_I1, if_neg (by omega)])
    rw [this]
/-- not, ( -/
theorem mv_pto {q : Nat} {c w : Int32} (hs : mk_sgs s) (hk : k < 5) (T : mk_TKM s b h) (e : h.1 261 28 = Int32.ofNat (1000 + m)) (hm : m < 1000) (p : mv_pk s b q) (hq : (q = 5 ∧ c = 30 ∧ w = 1) ∨ (q = 6 ∧ c = 28 ∧ w = 2)) : ∃ h', mm_while mv_R (Int32.ofNat k, 1, h) = mm_while mv_R (Int32.ofNat (k + 1), 1, h') ∧ mv_MS s b m (k + 1) (k + 1) c h h' ∧ h'.1 281 (k + 1) = w ∧ h'.1 282 (k + 1) = 0 := by
  have T1 : mk_TKM s b (mm_pI (mm_pI (mm_pI (mm_pI h 280 (1000 + m) c) 261 28 (Int32.ofNat (1000 + (m + 1)))) 281 (k + 1) w) 282 (k + 1) 0) := (((T.cell ⟨by omega, by omega⟩).g41 (by omega)).cell ⟨by omega, by omega⟩).cell ⟨by omega, by omega⟩
  have k1 : mv_ky (k + 1) (k + 1) m h (mm_pI (mm_pI (mm_pI (mm_pI h 280 (1000 + m) c) 261 28 (Int32.ofNat (1000 + (m + 1)))) 281 (k + 1) w) 282 (k + 1) 0) := (((mv_ky.p0 (Nat.le_refl _)).tr mv_ky.p28).tr (mv_ky.p1 (Nat.le_refl _))).tr (mv_ky.p2 (Nat.le_refl _))
  have v1 : (mm_pI (mm_pI (mm_pI (mm_pI h 280 (1000 + m) c) 261 28 (Int32.ofNat (1000 + (m + 1)))) 281 (k + 1) w) 282 (k + 1) 0).1 261 28 = Int32.ofNat (1000 + (m + 1)) := by rw [mp_I1, if_neg (by omega), mp_I1, if_neg (by omega), mp_I1, if_pos ⟨rfl, rfl⟩]
  have v2 : (mm_pI (mm_pI (mm_pI (mm_pI h 280 (1000 + m) c) 261 28 (Int32.ofNat (1000 + (m + 1)))) 281 (k + 1) w) 282 (k + 1) 0).1 280 (1000 + m) = c := by rw [mp_I1, if_neg (by omega), mp_I1, if_neg (by omega), mp_I1, if_neg (by omega), mp_I1, if_pos ⟨rfl, rfl⟩]
  have v3 : (mm_pI (mm_pI (mm_pI (mm_pI h 280 (1000 + m) c) 261 28 (Int32.ofNat (1000 + (m + 1)))) 281 (k + 1) w) 282 (k + 1) 0).1 281 (k + 1) = w := by rw [mp_I1, if_neg (by omega), mp_I1, if_pos ⟨rfl, rfl⟩]
  have v4 : (mm_pI (mm_pI (mm_pI (mm_pI h 280 (1000 + m) c) 261 28 (Int32.ofNat (1000 + (m + 1)))) 281 (k + 1) w) 282 (k + 1) 0).1 282 (k + 1) = 0 := by rw [mp_I1, if_pos ⟨rfl, rfl⟩]
  have st : mv_k172 (Int32.ofNat k, 1, h) (if q = 5 then 1 else 0) = some (Int32.ofNat (k + 1), 1, mm_pI (mm_pI (mm_pI (mm_pI h 280 (1000 + m) c) 261 28 (Int32.ofNat (1000 + (m + 1)))) 281 (k + 1) w) 282 (k + 1) 0) := by
    unfold mv_k172
    refine (mk_bs (v := c) ?_).trans ?_
    · rcases hq with ⟨rfl, rfl, _⟩ | ⟨rfl, rfl, _⟩
      · exact if_neg (show ¬ (if 5 = 5 then (1 : Int32) else 0) = 0 by decide)
      · exact if_pos (show (if 6 = 5 then (1 : Int32) else 0) = 0 by decide)
    · refine (mk_bs (mi_puts (c := c) e hm)).trans ?_
      dsimp only [mm_let]
      rw [show Int32.ofNat k + 1 = Int32.ofNat (k + 1) from mn_addl 1 k]
      refine (mk_bs (v := w) ?_).trans ?_
      · rcases hq with ⟨rfl, _, rfl⟩ | ⟨rfl, _, rfl⟩
        · exact if_neg (show ¬ (if 5 = 5 then (1 : Int32) else 0) = 0 by decide)
        · exact if_pos (show (if 6 = 5 then (1 : Int32) else 0) = 0 by decide)
      · rw [mk_bs (mv_ix7 (d := k + 1) (by omega)), mk_bs (mv_ix7 (d := k + 1) (by omega))]; rfl
  revert T1 k1 v1 v2 v3 v4 st
  generalize mm_pI (mm_pI (mm_pI (mm_pI h 280 (1000 + m) c) 261 28 (Int32.ofNat (1000 + (m + 1)))) 281 (k + 1) w) 282 (k + 1) 0 = h1
  intro T1 k1 v1 v2 v3 v4 st
  obtain ⟨h2, e2, f2, T2⟩ := mi_ttake hs T1
  refine ⟨h2, mm_while_inl ?_, ⟨T2, ?_, ?_, k1.tr f2.ky⟩, ?_, ?_⟩
  · rw [mv_pt169 hs T p]
    unfold mv_k169
    dsimp only
    rw [if_neg (fun z => absurd ((mn_eql (b := 5) (show k < 4294967296 by omega) (by decide)).mp z) (show ¬ k = 5 by omega))]
    refine (mk_bs (v := (Int32.ofNat (k + 1), 1, h1)) ?_).trans ?_
    · rcases hq with ⟨rfl, _, _⟩ | ⟨rfl, _, _⟩
      · rw [if_neg (show ¬ (if 5 = 5 then (1 : Int32) else 0) = 0 by decide)]; exact st
      · rw [if_pos (show (if 6 = 5 then (1 : Int32) else 0) = 0 by decide), if_neg (show ¬ (if 6 = 6 then (1 : Int32) else 0) = 0 by decide)]; exact st
    · dsimp only
      rw [mk_bs e2]
  · rw [f2.2 28 (by omega) (by omega) (by omega) (by omega)]; exact v1
  · rw [f2.1.e1 (c := 280) (by decide)]; exact v2
  · rw [f2.1.e1 (c := 281) (by decide)]; exact v3
  · rw [f2.1.e1 (c := 282) (by decide)]; exact v4
/-- the class's questions at a part's begin -/
theorem mv_wf : ∀ q, 1 ≤ q → q ≤ 4 → ¬ mm_wf (23 + q) = 0 ∧ ¬ mm_wf (23 + q) < -4 ∧ (q = 1 → mm_wf (23 + q) = -1) ∧ (q = 2 → mm_wf (23 + q) = -2) ∧ (q = 3 → mm_wf (23 + q) = -3) ∧ (q = 4 → mm_wf (23 + q) = -4) := by
  intro q h1 h2
  have key : ∀ q, q < 5 → 1 ≤ q → ¬ mm_wf (23 + q) = 0 ∧ ¬ mm_wf (23 + q) < -4 ∧ (q = 1 → mm_wf (23 + q) = -1) ∧ (q = 2 → mm_wf (23 + q) = -2) ∧ (q = 3 → mm_wf (23 + q) = -3) ∧ (q = 4 → mm_wf (23 + q) = -4) := by decide +kernel
  exact key q (by omega) h1
end MP
