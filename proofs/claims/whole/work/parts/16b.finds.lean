/-! names found on both sides -/
def mj_HP (a0 P : Nat) (nm : Nat → Nat → Nat) (h : mm_H) : Prop := h.1 a0 0 = Int32.ofNat P ∧ ∀ k, k < P → h.2.1 (a0 + 1) k = Int64.ofNat (mk_c32 (nm k))
def mj_HS (a0 S : Nat) (nm : Nat → Nat → Nat) (h : mm_H) : Prop := h.1 a0 6 = Int32.ofNat S ∧ ∀ k, k < S → h.2.1 (a0 + 5) k = Int64.ofNat (mk_c32 (nm k))
def mj_GP (r P : Nat) (nm : Nat → Nat → Nat) (h : mm_H) : Prop := h.1 263 (4 * r) = Int32.ofNat P ∧ ∀ k, k < P → h.2.1 264 (6 * r + k) = Int64.ofNat (mk_c27 (nm k))
def mj_GS (r S : Nat) (nm : Nat → Nat → Nat) (h : mm_H) : Prop := h.1 263 (4 * r + 1) = Int32.ofNat S ∧ ∀ k, k < S → h.2.1 265 (10 * r + k) = Int64.ofNat (mk_c27 (nm k))
def mj_nms (N : Nat) (nm : Nat → Nat → Nat) : Prop := ∀ k, k < N → mk_nm (nm k)
def mj_eq (nm : Nat → Nat → Nat) (s : mk_S) (b k : Nat) : Bool := decide (mk_c32 (nm k) = mk_c32 (mk_wd s b))
def mj_fd (nm : Nat → Nat → Nat) (N : Nat) (s : mk_S) (b : Nat) : Nat := mj_ff (mj_eq nm s b) N
def mj_fv (nm : Nat → Nat → Nat) (N : Nat) (s : mk_S) (b : Nat) : Int32 := if mj_fd nm N s b < N then Int32.ofNat (mj_fd nm N s b) else -1
theorem mx_findPerson {a0 P : Nat} {nm : Nat → Nat → Nat} {s : mk_S} {b : Nat} {h : mm_H} (ht : mm_tg a0 = 7) (hP : P ≤ 6) (hn : mj_nms P nm) (H : mj_HP a0 P nm h) (k : mk_kd s b = 1) : f_To_findPerson a0 (Int64.ofNat (mk_c32 (mk_wd s b))) h = some (mj_fv nm P s b) := by
  unfold f_To_findPerson
  rw [if_pos ht]
  obtain ⟨r, e, q⟩ : mk_ok (mm_while (σ := Int32) (ρ := Int32) (fun s1 => if (h.1 a0 0) ≤ s1 then (some (Sum.inr (-1))) else ((mm_ix s1 6).bind fun k4 => if (lg_cmp (h.2.1 (a0 + 1) k4) (Int64.ofNat (mk_c32 (mk_wd s b)))) = 0 then (some (Sum.inr s1)) else (mm_let (s1 + 1) fun y6 => some (Sum.inl y6)))) 0) (fun v => v = mj_fv nm P s b) := by
    refine mk_ok.lp (fun v : Int32 => ∃ i : Nat, i ≤ P ∧ v = Int32.ofNat i ∧ ∀ j, j < i → mj_eq nm s b j = false) (fun v => P - v.toInt.toNat) ⟨0, Nat.zero_le _, rfl, fun j hj => absurd hj (Nat.not_lt_zero j)⟩ (fun v hv => ?_)
    obtain ⟨i, hi, rfl, no⟩ := hv
    rw [H.1]
    by_cases c : P ≤ i
    · rw [if_pos ((mn_le (by omega) (by omega)).mpr c)]
      refine mk_ok.lpr ?_
      have : mj_fd nm P s b = P := mj_ff_no P (fun j hj => no j (by omega))
      unfold mj_fv
      rw [this, if_neg (by omega)]
    · rw [if_neg (fun z => c ((mn_le (by omega) (by omega)).mp z)), mk_bs (mn_ix (show i < 6 by omega) (by omega)), H.2 i (by omega)]
      by_cases e : mk_c32 (nm i) = mk_c32 (mk_wd s b)
      · rw [if_pos ((mp_lcmp _ _).mpr ((mk_c32_eq (hn i (by omega)) (mk_nm_wd k)).mpr e))]
        refine mk_ok.lpr ?_
        have : mj_fd nm P s b = i := mj_ff_is (show mj_eq nm s b i = true from decide_eq_true e) no P (by omega)
        unfold mj_fv
        rw [this, if_pos (by omega)]
      · rw [if_neg (fun z => e ((mk_c32_eq (hn i (by omega)) (mk_nm_wd k)).mp ((mp_lcmp _ _).mp z))), show Int32.ofNat i + 1 = Int32.ofNat (i + 1) from mn_addl 1 i]
        refine mk_ok.let (mk_ok.lpl ⟨⟨i + 1, by omega, rfl, fun j hj => ?_⟩, ?_⟩)
        · by_cases d : j = i
          · rw [d]; exact decide_eq_false e
          · exact no j (by omega)
        · rw [Int32.toInt_ofNat_of_lt (by omega), Int32.toInt_ofNat_of_lt (by omega)]
          omega
  rw [e, q]
theorem mx_findSecret {a0 S : Nat} {nm : Nat → Nat → Nat} {s : mk_S} {b : Nat} {h : mm_H} (ht : mm_tg a0 = 7) (hS : S ≤ 10) (hn : mj_nms S nm) (H : mj_HS a0 S nm h) (k : mk_kd s b = 1) : f_To_findSecret a0 (Int64.ofNat (mk_c32 (mk_wd s b))) h = some (mj_fv nm S s b) := by
  unfold f_To_findSecret
  rw [if_pos ht]
  obtain ⟨r, e, q⟩ : mk_ok (mm_while (σ := Int32) (ρ := Int32) (fun s1 => if (h.1 a0 6) ≤ s1 then (some (Sum.inr (-1))) else ((mm_ix s1 10).bind fun k4 => if (lg_cmp (h.2.1 (a0 + 5) k4) (Int64.ofNat (mk_c32 (mk_wd s b)))) = 0 then (some (Sum.inr s1)) else (mm_let (s1 + 1) fun y6 => some (Sum.inl y6)))) 0) (fun v => v = mj_fv nm S s b) := by
    refine mk_ok.lp (fun v : Int32 => ∃ i : Nat, i ≤ S ∧ v = Int32.ofNat i ∧ ∀ j, j < i → mj_eq nm s b j = false) (fun v => S - v.toInt.toNat) ⟨0, Nat.zero_le _, rfl, fun j hj => absurd hj (Nat.not_lt_zero j)⟩ (fun v hv => ?_)
    obtain ⟨i, hi, rfl, no⟩ := hv
    rw [H.1]
    by_cases c : S ≤ i
    · rw [if_pos ((mn_le (by omega) (by omega)).mpr c)]
      refine mk_ok.lpr ?_
      have : mj_fd nm S s b = S := mj_ff_no S (fun j hj => no j (by omega))
      unfold mj_fv
      rw [this, if_neg (by omega)]
    · rw [if_neg (fun z => c ((mn_le (by omega) (by omega)).mp z)), mk_bs (mn_ix (show i < 10 by omega) (by omega)), H.2 i (by omega)]
      by_cases e : mk_c32 (nm i) = mk_c32 (mk_wd s b)
      · rw [if_pos ((mp_lcmp _ _).mpr ((mk_c32_eq (hn i (by omega)) (mk_nm_wd k)).mpr e))]
        refine mk_ok.lpr ?_
        have : mj_fd nm S s b = i := mj_ff_is (show mj_eq nm s b i = true from decide_eq_true e) no S (by omega)
        unfold mj_fv
        rw [this, if_pos (by omega)]
      · rw [if_neg (fun z => e ((mk_c32_eq (hn i (by omega)) (mk_nm_wd k)).mp ((mp_lcmp _ _).mp z))), show Int32.ofNat i + 1 = Int32.ofNat (i + 1) from mn_addl 1 i]
        refine mk_ok.let (mk_ok.lpl ⟨⟨i + 1, by omega, rfl, fun j hj => ?_⟩, ?_⟩)
        · by_cases d : j = i
          · rw [d]; exact decide_eq_false e
          · exact no j (by omega)
        · rw [Int32.toInt_ofNat_of_lt (by omega), Int32.toInt_ofNat_of_lt (by omega)]
          omega
  rw [e, q]
theorem mi_named {a0 base N : Nat} {nm : Nat → Nat → Nat} {s : mk_S} {b : Nat} {h : mm_H} (ht : mm_tg a0 = 21) (hl : base + N ≤ mm_ln a0) (hm : mm_ln a0 ≤ 1000) (hn : mj_nms N nm) (H : ∀ k, k < N → h.2.1 a0 (base + k) = Int64.ofNat (mk_c27 (nm k))) (k : mk_kd s b = 1) : f_M_named a0 (Int32.ofNat base) (Int32.ofNat N) (Int64.ofNat (mk_c27 (mk_wd s b))) h = some (mj_fv nm N s b) := by
  unfold f_M_named
  rw [if_pos ht, mn_add]
  obtain ⟨r, e, q⟩ : mk_ok (mm_while (σ := Int32) (ρ := Int32) (fun s1 => if Int32.ofNat (base + N) ≤ s1 then (some (Sum.inr (-1))) else ((mm_ix s1 (mm_ln a0)).bind fun k4 => if (lg_cmp (h.2.1 a0 k4) (Int64.ofNat (mk_c27 (mk_wd s b)))) = 0 then (some (Sum.inr (s1 - Int32.ofNat base))) else (mm_let (s1 + 1) fun y6 => some (Sum.inl y6)))) (Int32.ofNat base)) (fun v => v = mj_fv nm N s b) := by
    refine mk_ok.lp (fun v : Int32 => ∃ i : Nat, i ≤ N ∧ v = Int32.ofNat (base + i) ∧ ∀ j, j < i → mj_eq nm s b j = false) (fun v => base + N - v.toInt.toNat) ⟨0, Nat.zero_le _, rfl, fun j hj => absurd hj (Nat.not_lt_zero j)⟩ (fun v hv => ?_)
    obtain ⟨i, hi, rfl, no⟩ := hv
    by_cases c : N ≤ i
    · rw [if_pos ((mn_le (by omega) (by omega)).mpr (by omega))]
      refine mk_ok.lpr ?_
      have : mj_fd nm N s b = N := mj_ff_no N (fun j hj => no j (by omega))
      unfold mj_fv
      rw [this, if_neg (by omega)]
    · rw [if_neg (fun z => absurd ((mn_le (by omega) (by omega)).mp z) (by omega)), mk_bs (mn_ix (show base + i < mm_ln a0 by omega) (by omega)), H i (by omega)]
      by_cases e : mk_c32 (nm i) = mk_c32 (mk_wd s b)
      · rw [if_pos ((mp_lcmp _ _).mpr ((mk_c27_eq (hn i (by omega)) (mk_nm_wd k)).mpr e))]
        refine mk_ok.lpr ?_
        have : mj_fd nm N s b = i := mj_ff_is (show mj_eq nm s b i = true from decide_eq_true e) no N (by omega)
        unfold mj_fv
        rw [this, if_pos (by omega), mn_sub (by omega), show base + i - base = i by omega]
      · rw [if_neg (fun z => e ((mk_c27_eq (hn i (by omega)) (mk_nm_wd k)).mp ((mp_lcmp _ _).mp z))), show Int32.ofNat (base + i) + 1 = Int32.ofNat (base + i + 1) from mn_addl 1 _]
        refine mk_ok.let (mk_ok.lpl ⟨⟨i + 1, by omega, rfl, fun j hj => ?_⟩, ?_⟩)
        · by_cases d : j = i
          · rw [d]; exact decide_eq_false e
          · exact no j (by omega)
        · rw [Int32.toInt_ofNat_of_lt (by omega), Int32.toInt_ofNat_of_lt (by omega)]
          omega
  rw [e, q]
theorem mj_tags : (mm_tg 264 = 21 ∧ mm_ln 264 = 12) ∧ (mm_tg 265 = 21 ∧ mm_ln 265 = 20) ∧ mm_tg 79 = 7 ∧ mm_tg 96 = 7 := by decide +kernel
theorem mi_personNamed {r P : Nat} {nm : Nat → Nat → Nat} {s : mk_S} {b : Nat} {h : mm_H} (hr : r < 2) (hP : P ≤ 6) (hn : mj_nms P nm) (H : mj_GP r P nm h) (k : mk_kd s b = 1) (w : h.2.1 261 7 = Int64.ofNat (mk_c27 (mk_wd s b))) : f_M_personNamed (Int32.ofNat r) h = some (mj_fv nm P s b) := by
  unfold f_M_personNamed
  have ix : mm_ix ((4 * Int32.ofNat r) + 0) 8 = some (4 * r) := by
    rw [mn_lmul 4, Int32.add_zero]
    exact mn_ix (show 4 * r < 8 by omega) (by omega)
  rw [mk_bs ix, H.1, w, mn_lmul 6]
  exact (mk_bs (mi_named (base := 6 * r) mj_tags.1.1 (by rw [mj_tags.1.2]; omega) (by rw [mj_tags.1.2]; omega) hn H.2 k)).trans rfl
theorem mi_secretNamed {r S : Nat} {nm : Nat → Nat → Nat} {s : mk_S} {b : Nat} {h : mm_H} (hr : r < 2) (hS : S ≤ 10) (hn : mj_nms S nm) (H : mj_GS r S nm h) (k : mk_kd s b = 1) (w : h.2.1 261 7 = Int64.ofNat (mk_c27 (mk_wd s b))) : f_M_secretNamed (Int32.ofNat r) h = some (mj_fv nm S s b) := by
  unfold f_M_secretNamed
  have ix : mm_ix ((4 * Int32.ofNat r) + 1) 8 = some (4 * r + 1) := by
    rw [mn_lmul 4, mn_addl 1]
    exact mn_ix (show 4 * r + 1 < 8 by omega) (by omega)
  rw [mk_bs ix, H.1, w, mn_lmul 10]
  exact (mk_bs (mi_named (base := 10 * r) mj_tags.2.1.1 (by rw [mj_tags.2.1.2]; omega) (by rw [mj_tags.2.1.2]; omega) hn H.2 k)).trans rfl
/-- the fault of a name that should have been told: 0 none, 1 no name, 2 not told -/
noncomputable def mj_tf (nm : Nat → Nat → Nat) (N : Nat) (s : mk_S) (b : Nat) : Nat := @ite _ (mk_isn s b) (Classical.propDecidable _) (if mj_fd nm N s b < N then 0 else 2) 1
theorem mj_tf_0 {nm : Nat → Nat → Nat} {N : Nat} {s : mk_S} {b : Nat} (h : mj_tf nm N s b = 0) : mk_isn s b ∧ mj_fd nm N s b < N := by
  unfold mj_tf at h
  by_cases n : mk_isn s b
  · rw [if_pos n] at h
    refine ⟨n, ?_⟩
    rcases Nat.lt_or_ge (mj_fd nm N s b) N with c | c
    · exact c
    · rw [if_neg (by omega)] at h; omega
  · rw [if_neg n] at h; omega
theorem mj_tf_1 {nm : Nat → Nat → Nat} {N : Nat} {s : mk_S} {b : Nat} (n : ¬ mk_isn s b) : mj_tf nm N s b = 1 := if_neg n
theorem mj_tf_2 {nm : Nat → Nat → Nat} {N : Nat} {s : mk_S} {b : Nat} (h : ¬ mj_tf nm N s b = 0) (n : mk_isn s b) : ¬ mj_fd nm N s b < N ∧ mj_tf nm N s b = 2 := by
  unfold mj_tf at h ⊢
  rw [if_pos n] at h ⊢
  by_cases c : mj_fd nm N s b < N
  · rw [if_pos c] at h; omega
  · exact ⟨c, if_neg c⟩
theorem mn_nn1 {a : Nat} (ha : a < 1000) : ¬ Int32.ofNat a = -1 := mn_nn (by omega)
section FT
variable {a0 N : Nat} {nm : Nat → Nat → Nat} {s : mk_S} {b : Nat} {h : mm_H}
theorem mj_findTold1 {x2 : Int32} (ht : mm_tg a0 = 7) (hN : N ≤ 10) (T : mk_TKX s b h) (e : mj_tf nm N s b = 0) (F : mk_kd s b = 1 → (if x2 = 0 then ((f_To_findSecret a0 (h.2.1 33 6) h).bind fun v6 => some v6) else ((f_To_findPerson a0 (h.2.1 33 6) h).bind fun v8 => some v8) : Option Int32) = some (mj_fv nm N s b)) : f_To_findTold a0 x2 h = some (Int32.ofNat (mj_fd nm N s b), h) := by
  obtain ⟨n, l⟩ := mj_tf_0 e
  unfold f_To_findTold
  rw [if_pos ht, mk_bs (mx_isName1 T n), if_neg (show ¬ (1 : Int32) = 0 by decide), mk_bs (F n.1)]
  unfold mj_fv
  rw [if_pos l, if_neg (mn_nn1 (by omega))]
theorem mj_findTold0 {x2 : Int32} (ht : mm_tg a0 = 7) (T : mk_TKX s b h) (h9 : h.1 33 9 = 0) (e : ¬ mj_tf nm N s b = 0) (F : mk_kd s b = 1 → (if x2 = 0 then ((f_To_findSecret a0 (h.2.1 33 6) h).bind fun v6 => some v6) else ((f_To_findPerson a0 (h.2.1 33 6) h).bind fun v8 => some v8) : Option Int32) = some (mj_fv nm N s b)) : mk_ok (f_To_findTold a0 x2 h) (fun v => v.1 = -1 ∧ mk_FX (mk_fv (mj_tf nm N s b) b) h v.2) := by
  unfold f_To_findTold
  rw [if_pos ht]
  by_cases n : mk_isn s b
  · obtain ⟨c, c2⟩ := mj_tf_2 e n
    rw [mk_bs (mx_isName1 T n), if_neg (show ¬ (1 : Int32) = 0 by decide), mk_bs (F n.1), c2]
    unfold mj_fv
    rw [if_neg c, if_pos rfl]
    exact mk_ok.bind (mx_wrong (k := 2) T h9) (fun v ⟨a, q⟩ => mk_ok.ret ⟨rfl, q⟩)
  · rw [mk_bs (mx_isName0 T n), if_pos (show (0 : Int32) = 0 from rfl), mj_tf_1 n]
    exact mk_ok.bind (mx_wrong (k := 1) T h9) (fun v ⟨a, q⟩ => mk_ok.ret ⟨rfl, q⟩)
theorem mj_FP (ht : mm_tg a0 = 7) (hP : N ≤ 6) (hn : mj_nms N nm) (H : mj_HP a0 N nm h) (T : mk_TKX s b h) (k : mk_kd s b = 1) : (if (1 : Int32) = 0 then ((f_To_findSecret a0 (h.2.1 33 6) h).bind fun v6 => some v6) else ((f_To_findPerson a0 (h.2.1 33 6) h).bind fun v8 => some v8) : Option Int32) = some (mj_fv nm N s b) := by
  rw [if_neg (by decide), T.2.2.2.2.2.2.1 k, mx_findPerson ht hP hn H k]; rfl
theorem mj_FS (ht : mm_tg a0 = 7) (hS : N ≤ 10) (hn : mj_nms N nm) (H : mj_HS a0 N nm h) (T : mk_TKX s b h) (k : mk_kd s b = 1) : (if (0 : Int32) = 0 then ((f_To_findSecret a0 (h.2.1 33 6) h).bind fun v6 => some v6) else ((f_To_findPerson a0 (h.2.1 33 6) h).bind fun v8 => some v8) : Option Int32) = some (mj_fv nm N s b) := by
  rw [if_pos rfl, T.2.2.2.2.2.2.1 k, mx_findSecret ht hS hn H k]; rfl
theorem mj_takeTold1 {x2 : Int32} (hs : mk_sgs s) (ht : mm_tg a0 = 7) (hN : N ≤ 10) (T : mk_TKX s b h) (e : f_To_findTold a0 x2 h = some (Int32.ofNat (mj_fd nm N s b), h)) (l : mj_fd nm N s b < N) : mk_ok (f_To_takeTold a0 x2 h) (fun v => v.1 = Int32.ofNat (mj_fd nm N s b) ∧ mk_NX1 s b h v.2) := by
  unfold f_To_takeTold
  rw [if_pos ht, mk_bs e, if_neg (mn_nn1 (by omega))]
  exact mk_ok.bind (mx_ttake hs T) (fun v hv => mk_ok.ret ⟨rfl, hv⟩)
theorem mj_takeTold0 {x2 : Int32} {v0 : Int32} (ht : mm_tg a0 = 7) (e : mk_ok (f_To_findTold a0 x2 h) (fun v => v.1 = -1 ∧ mk_FX v0 h v.2)) : mk_ok (f_To_takeTold a0 x2 h) (fun v => v.1 = -1 ∧ mk_FX v0 h v.2) := by
  unfold f_To_takeTold
  rw [if_pos ht]
  refine mk_ok.bind e (fun v ⟨a, q⟩ => ?_)
  rw [a, if_pos rfl]
  exact mk_ok.ret ⟨rfl, q⟩
end FT
theorem mk_TKM.g41 {s : mk_S} {b : Nat} {h : mm_H} {v : Int32} {j : Nat} (T : mk_TKM s b h) (hj : 9 < j) : mk_TKM s b (mm_pI h 261 j v) := by
  obtain ⟨t0, t1, t2, t3, t4, t5, t6, t7⟩ := T
  refine ⟨t0, fun k hk => by rw [mp_I1, if_neg (by omega)]; exact t1 k hk, ?_, ?_, ?_, ?_, t6, fun z => ?_⟩
  · rw [mp_I1, if_neg (by omega)]; exact t2
  · rw [mp_I1, if_neg (by omega)]; exact t3
  · rw [mp_I1, if_neg (by omega)]; exact t4
  · rw [mp_I1, if_neg (by omega)]; exact t5
  · rw [mp_I1, if_neg (by omega)]; exact t7 z
theorem mj_nn0 {a : Nat} (ha : a < 1000) : 0 ≤ Int32.ofNat a := (mn_lle (b := 0) (show a < 2147483648 by omega) (by decide)).mpr (Nat.zero_le _)
theorem mi_needsP1 {r P : Nat} {nm : Nat → Nat → Nat} {s : mk_S} {b : Nat} {h : mm_H} (hr : r < 2) (hP : P ≤ 6) (hn : mj_nms P nm) (H : mj_GP r P nm h) (T : mk_TKM s b h) (e : mj_tf nm P s b = 0) : f_M_needsPerson (Int32.ofNat r) h = some (1, mm_pI h 261 41 (Int32.ofNat (mj_fd nm P s b))) := by
  obtain ⟨n, l⟩ := mj_tf_0 e
  unfold f_M_needsPerson
  rw [mk_bs ((mi_isKept T).1 n), if_pos (show (0 : Int32) = 0 from rfl), mk_bs (mi_personNamed hr hP hn H n.1 (T.2.2.2.2.2.2.1 n.1))]
  have fv : mj_fv nm P s b = Int32.ofNat (mj_fd nm P s b) := if_pos l
  rw [fv]
  simp only [mm_let]
  rw [show ∀ v, (mm_pI h 261 41 v).1 261 41 = v from fun v => by rw [mp_I1, if_pos ⟨rfl, rfl⟩], if_pos (mj_nn0 (by omega))]
theorem mi_needsP0 {r P : Nat} {nm : Nat → Nat → Nat} {s : mk_S} {b : Nat} {h : mm_H} (hr : r < 2) (hP : P ≤ 6) (hn : mj_nms P nm) (H : mj_GP r P nm h) (T : mk_TKM s b h) (e : ¬ mj_tf nm P s b = 0) : mk_ok (f_M_needsPerson (Int32.ofNat r) h) (fun v => v.1 = 0 ∧ mk_FM (mk_fv (mj_tf nm P s b) b) h v.2) := by
  unfold f_M_needsPerson
  by_cases n : mk_isn s b
  · obtain ⟨c, c2⟩ := mj_tf_2 e n
    rw [mk_bs ((mi_isKept T).1 n), if_pos (show (0 : Int32) = 0 from rfl), mk_bs (mi_personNamed hr hP hn H n.1 (T.2.2.2.2.2.2.1 n.1))]
    have fv : mj_fv nm P s b = -1 := if_neg c
    rw [fv, c2]
    simp only [mm_let]
    rw [show ∀ v, (mm_pI h 261 41 v).1 261 41 = v from fun v => by rw [mp_I1, if_pos ⟨rfl, rfl⟩], if_neg (show ¬ (0 : Int32) ≤ -1 by decide)]
    refine mk_ok.bind (mi_fails (k := 2) (T.g41 (v := -1) (j := 41) (by omega))) (fun v ⟨a, q1, q2, q3⟩ => ?_)
    rw [a, if_pos (show (0 : Int32) = 0 from rfl)]
    refine mk_ok.ret ⟨rfl, (mk_ch.pI (D := fun c => c = 261) rfl).tr q1 (fun _ z => z) (fun _ z => z), fun j n1 n2 n3 n4 n5 n6 => ?_, q3⟩
    rw [q2 j n1 n2 n3 n4 n5 n6, mp_I1, if_neg (by omega)]
  · rw [mk_bs ((mi_isKept T).2 n), if_neg (show ¬ (1 : Int32) = 0 by decide), mj_tf_1 n]
    refine mk_ok.bind (mi_fails (k := 1) T) (fun v ⟨a, q⟩ => ?_)
    rw [a]
    exact mk_ok.bs mk_bo0 (mk_ok.ret ⟨rfl, q⟩)
theorem mi_needsS1 {r S : Nat} {nm : Nat → Nat → Nat} {s : mk_S} {b : Nat} {h : mm_H} (hr : r < 2) (hS : S ≤ 10) (hn : mj_nms S nm) (H : mj_GS r S nm h) (T : mk_TKM s b h) (e : mj_tf nm S s b = 0) : f_M_needsSecret (Int32.ofNat r) h = some (1, mm_pI h 261 41 (Int32.ofNat (mj_fd nm S s b))) := by
  obtain ⟨n, l⟩ := mj_tf_0 e
  unfold f_M_needsSecret
  rw [mk_bs ((mi_isKept T).1 n), if_pos (show (0 : Int32) = 0 from rfl), mk_bs (mi_secretNamed hr hS hn H n.1 (T.2.2.2.2.2.2.1 n.1))]
  have fv : mj_fv nm S s b = Int32.ofNat (mj_fd nm S s b) := if_pos l
  rw [fv]
  simp only [mm_let]
  rw [show ∀ v, (mm_pI h 261 41 v).1 261 41 = v from fun v => by rw [mp_I1, if_pos ⟨rfl, rfl⟩], if_pos (mj_nn0 (by omega))]
theorem mi_needsS0 {r S : Nat} {nm : Nat → Nat → Nat} {s : mk_S} {b : Nat} {h : mm_H} (hr : r < 2) (hS : S ≤ 10) (hn : mj_nms S nm) (H : mj_GS r S nm h) (T : mk_TKM s b h) (e : ¬ mj_tf nm S s b = 0) : mk_ok (f_M_needsSecret (Int32.ofNat r) h) (fun v => v.1 = 0 ∧ mk_FM (mk_fv (mj_tf nm S s b) b) h v.2) := by
  unfold f_M_needsSecret
  by_cases n : mk_isn s b
  · obtain ⟨c, c2⟩ := mj_tf_2 e n
    rw [mk_bs ((mi_isKept T).1 n), if_pos (show (0 : Int32) = 0 from rfl), mk_bs (mi_secretNamed hr hS hn H n.1 (T.2.2.2.2.2.2.1 n.1))]
    have fv : mj_fv nm S s b = -1 := if_neg c
    rw [fv, c2]
    simp only [mm_let]
    rw [show ∀ v, (mm_pI h 261 41 v).1 261 41 = v from fun v => by rw [mp_I1, if_pos ⟨rfl, rfl⟩], if_neg (show ¬ (0 : Int32) ≤ -1 by decide)]
    refine mk_ok.bind (mi_fails (k := 2) (T.g41 (v := -1) (j := 41) (by omega))) (fun v ⟨a, q1, q2, q3⟩ => ?_)
    rw [a, if_pos (show (0 : Int32) = 0 from rfl)]
    refine mk_ok.ret ⟨rfl, (mk_ch.pI (D := fun c => c = 261) rfl).tr q1 (fun _ z => z) (fun _ z => z), fun j n1 n2 n3 n4 n5 n6 => ?_, q3⟩
    rw [q2 j n1 n2 n3 n4 n5 n6, mp_I1, if_neg (by omega)]
  · rw [mk_bs ((mi_isKept T).2 n), if_neg (show ¬ (1 : Int32) = 0 by decide), mj_tf_1 n]
    refine mk_ok.bind (mi_fails (k := 1) T) (fun v ⟨a, q⟩ => ?_)
    rw [a]
    exact mk_ok.bs mk_bo0 (mk_ok.ret ⟨rfl, q⟩)
