/-! the class: what is asked of a token, and taken -/
def mk_iss (s : mk_S) (b c : Nat) : Bool := decide (mk_kd s b = 3) && decide (s.2 b = c)
theorem mk_iss_3 {s : mk_S} {b c : Nat} (h : mk_iss s b c = true) : mk_kd s b = 3 ∧ s.2 b = c := by
  unfold mk_iss at h
  rw [Bool.and_eq_true, decide_eq_true_eq, decide_eq_true_eq] at h
  exact h
theorem mk_kd_le (s : mk_S) (b : Nat) : mk_kd s b ≤ 4 := by
  unfold mk_kd
  split
  · omega
  · split
    · split <;> omega
    · split
      · split <;> omega
      · split <;> omega
theorem mk_kX_eq (s : mk_S) (b : Nat) : (mk_kX (mk_kd s b) = 1 ↔ mk_kd s b = 0) ∧ (mk_kX (mk_kd s b) = 2 ↔ mk_kd s b = 1) ∧ (mk_kX (mk_kd s b) = 3 ↔ mk_kd s b = 2) ∧ (mk_kX (mk_kd s b) = 4 ↔ mk_kd s b = 3) := by
  have := mk_kd_le s b
  generalize mk_kd s b = k at *
  have : k = 0 ∨ k = 1 ∨ k = 2 ∨ k = 3 ∨ k = 4 := by omega
  rcases this with rfl | rfl | rfl | rfl | rfl <;> decide
theorem mx_gW {s : mk_S} {b : Nat} {h : mm_H} (T : mk_TKX s b h) : mm_gW h = some (mk_wo s b) := by
  unfold mm_gW
  rw [T.2.2.2.2.2.1]
  refine if_pos ?_
  cases e : mk_wo s b with
  | none => rfl
  | some i => exact decide_eq_true (mk_wo_some.mp e).1
theorem mk_wo_iff {s : mk_S} {b i : Nat} (hi : i < 28) : mk_wo s b = some i ↔ mk_isw s b i := by
  rw [mk_wo_some]
  exact ⟨fun z => z.2, fun z => ⟨hi, z⟩⟩
theorem mx_isSign {s : mk_S} {b c : Nat} {h : mm_H} (hs : mk_sgs s) (T : mk_TKX s b h) (hc : c < 127) : f_Ta_isSign (Int32.ofNat c) h = some (Int32.ofNat (mk_iss s b c).toNat) := by
  obtain ⟨t0, t1, t2, t3, t4, t5, t6, t7, t8⟩ := T
  unfold f_Ta_isSign
  rw [t4]
  by_cases k : mk_kd s b = 3
  · rw [if_pos ((mk_kX_eq s b).2.2.2.mpr k), t8 k]
    have sl := mk_sign_lt hs (mk_kd_3 k)
    unfold mk_iss
    rw [decide_eq_true k, Bool.true_and]
    by_cases e : s.2 b = c
    · rw [if_pos (by rw [e]), decide_eq_true e]; rfl
    · rw [if_neg (fun z => e ((mn_eq (by omega) (by omega)).mp z)), decide_eq_false e]; rfl
  · rw [if_neg (fun z => k ((mk_kX_eq s b).2.2.2.mp z))]
    unfold mk_iss
    rw [decide_eq_false k, Bool.false_and]; rfl
theorem mk_wf24 : ∀ i, i < 28 → (mm_wf i = 0 ↔ i < 24) := by decide +kernel
theorem mx_isName1 {s : mk_S} {b : Nat} {h : mm_H} (T : mk_TKX s b h) (n : mk_isn s b) : f_Ta_isName h = some 1 := by
  unfold f_Ta_isName
  rw [T.2.2.2.2.1, if_pos ((mk_kX_eq s b).2.1.mpr n.1), mk_bs (mx_gW T)]
  cases e : mk_wo s b with
  | none => exact if_pos rfl
  | some i =>
    obtain ⟨i1, i2⟩ := mk_wo_some.mp e
    have : ¬ mm_wf i = 0 := fun z => n.2 i ((mk_wf24 i i1).mp z) i2
    rw [if_neg (fun z => nomatch z), mk_bs (mx_gW T), e]
    exact if_neg this
theorem mx_isName0 {s : mk_S} {b : Nat} {h : mm_H} (T : mk_TKX s b h) (n : ¬ mk_isn s b) : f_Ta_isName h = some 0 := by
  unfold f_Ta_isName
  rw [T.2.2.2.2.1]
  by_cases k : mk_kd s b = 1
  · rw [if_pos ((mk_kX_eq s b).2.1.mpr k), mk_bs (mx_gW T)]
    cases e : mk_wo s b with
    | none =>
      refine absurd ⟨k, fun i hi z => ?_⟩ n
      rw [(mk_wo_iff (by omega)).mpr z] at e
      nomatch e
    | some i =>
      obtain ⟨i1, i2⟩ := mk_wo_some.mp e
      rw [if_neg (fun z => nomatch z), mk_bs (mx_gW T), e]
      refine if_pos ((mk_wf24 i i1).mpr ?_)
      rcases Nat.lt_or_ge i 24 with l | l
      · exact l
      · refine absurd ⟨k, fun j hj z => ?_⟩ n
        have := mk_isw_inj (by omega) i1 z i2
        omega
  · rw [if_neg (fun z => k ((mk_kX_eq s b).2.1.mp z))]
/-- a fault of kind k at the token at b -/
def mk_fv (k b : Nat) : Int32 := Int32.ofNat k + 16 * Int32.ofNat b
/-- the class has found the fault v: nothing but the tape's cell is changed -/
def mk_FX (v : Int32) (h h' : mm_H) : Prop := mk_cr (fun c => c = 33) h h' ∧ h'.1 33 1 = h.1 33 1 ∧ h'.1 33 9 = v
theorem mk_FX.fx {v : Int32} {h h1 h2 : mm_H} (k : mk_fx h h1) (q : mk_FX v h1 h2) : mk_FX v h h2 := ⟨k.1.tr q.1 (fun _ z => z) (fun _ z => z), q.2.1.trans k.2.1, q.2.2⟩
theorem mx_wrong {s : mk_S} {b k : Nat} {h : mm_H} (T : mk_TKX s b h) (h9 : h.1 33 9 = 0) : mk_ok (f_Ta_wrong (Int32.ofNat k) h) (fun v => v.1 = 0 ∧ mk_FX (mk_fv k b) h v.2) := by
  unfold f_Ta_wrong
  rw [if_pos h9, T.2.2.2.1]
  refine mk_ok.let (mk_ok.ret ⟨rfl, mk_cr.of (mk_ch.pI rfl), ?_, ?_⟩)
  · rw [mp_I1, if_neg (by omega)]
  · rw [mp_I1, if_pos ⟨rfl, rfl⟩]; rfl
theorem mk_bo0 : mm_bo 0 = some 0 := rfl
theorem mk_bo1 : mm_bo 1 = some 1 := rfl
/-- behind a token taken: b' is where the next begins -/
def mk_NX1 (s : mk_S) (b : Nat) (h v : mm_H) : Prop := mk_fx h v ∧ mk_TKX s (mk_ntk s b) v
theorem mx_ttake {s : mk_S} {b : Nat} {h : mm_H} (hs : mk_sgs s) (T : mk_TKX s b h) : mk_ok (f_Ta_next h) (fun v => mk_NX1 s b h v) := mx_tnext hs (mk_en_le T.1).2 T.2.1 T.2.2.1
theorem mx_takeSign1 {s : mk_S} {b c : Nat} {h : mm_H} (hs : mk_sgs s) (T : mk_TKX s b h) (hc : c < 127) (e : mk_iss s b c = true) : mk_ok (f_Ta_takeSign (Int32.ofNat c) h) (fun v => v.1 = 1 ∧ mk_NX1 s b h v.2) := by
  unfold f_Ta_takeSign
  refine mk_ok.bs (mx_isSign hs T hc) ?_
  rw [e, if_neg (show ¬ Int32.ofNat true.toNat = 0 by decide)]
  exact mk_ok.bind (mx_ttake hs T) (fun v hv => mk_ok.ret ⟨rfl, hv⟩)
theorem mx_takeSign0 {s : mk_S} {b c : Nat} {h : mm_H} (hs : mk_sgs s) (T : mk_TKX s b h) (hc : c < 127) (h9 : h.1 33 9 = 0) (e : mk_iss s b c = false) : mk_ok (f_Ta_takeSign (Int32.ofNat c) h) (fun v => v.1 = 0 ∧ mk_FX (mk_fv 1 b) h v.2) := by
  unfold f_Ta_takeSign
  refine mk_ok.bs (mx_isSign hs T hc) ?_
  rw [e, if_pos (show Int32.ofNat false.toNat = 0 from rfl)]
  refine mk_ok.bind (mx_wrong (k := 1) T h9) (fun v ⟨a, q⟩ => ?_)
  rw [a]
  exact mk_ok.bs mk_bo0 (mk_ok.ret ⟨rfl, q⟩)
theorem mx_takeWord1 {s : mk_S} {b i : Nat} {h : mm_H} (hs : mk_sgs s) (T : mk_TKX s b h) (hi : i < 28) (e : mk_isw s b i) : mk_ok (f_Ta_takeWord (some i) h) (fun v => v.1 = 1 ∧ mk_NX1 s b h v.2) := by
  unfold f_Ta_takeWord
  rw [if_pos (show mm_okW (some i) = true from decide_eq_true hi), (mk_bs (mx_gW T)), if_pos ((mk_wo_iff hi).mpr e)]
  exact mk_ok.bind (mx_ttake hs T) (fun v hv => mk_ok.ret ⟨rfl, hv⟩)
theorem mx_takeWord0 {s : mk_S} {b i : Nat} {h : mm_H} (T : mk_TKX s b h) (hi : i < 28) (h9 : h.1 33 9 = 0) (e : ¬ mk_isw s b i) : mk_ok (f_Ta_takeWord (some i) h) (fun v => v.1 = 0 ∧ mk_FX (mk_fv 1 b) h v.2) := by
  unfold f_Ta_takeWord
  rw [if_pos (show mm_okW (some i) = true from decide_eq_true hi), (mk_bs (mx_gW T)), if_neg (fun z => e ((mk_wo_iff hi).mp z))]
  refine mk_ok.bind (mx_wrong (k := 1) T h9) (fun v ⟨a, q⟩ => ?_)
  rw [a]
  exact mk_ok.bs mk_bo0 (mk_ok.ret ⟨rfl, q⟩)
/-- a number's fault: 0 where there is none -/
def mk_nf (s : mk_S) (b lo hi : Nat) : Nat := if mk_kd s b = 2 then (if lo ≤ mk_nu s b ∧ mk_nu s b ≤ hi then 0 else 4) else 1
theorem mx_takeNumber1 {s : mk_S} {b lo hi : Nat} {h : mm_H} (hs : mk_sgs s) (T : mk_TKX s b h) (hl : lo < 10000) (hh : hi < 10000) (e : mk_nf s b lo hi = 0) : mk_ok (f_Ta_takeNumber (Int32.ofNat lo) (Int32.ofNat hi) h) (fun v => v.1 = Int32.ofNat (mk_nu s b) ∧ mk_NX1 s b h v.2) := by
  unfold mk_nf at e
  have k : mk_kd s b = 2 := by
    by_cases k : mk_kd s b = 2
    · exact k
    · rw [if_neg k] at e; omega
  rw [if_pos k] at e
  have r : lo ≤ mk_nu s b ∧ mk_nu s b ≤ hi := by
    by_cases r : lo ≤ mk_nu s b ∧ mk_nu s b ≤ hi
    · exact r
    · rw [if_neg r] at e; omega
  have nl := mk_nu_lt k
  unfold f_Ta_takeNumber
  rw [T.2.2.2.2.1, if_pos ((mk_kX_eq s b).2.2.1.mpr k)]
  simp only [mm_jp, mm_let]
  rw [T.2.2.2.2.2.2.2.1 k, if_neg (fun z => absurd ((mn_lt (by omega) (by omega)).mp z) (by omega)), if_pos ((mn_le (by omega) (by omega)).mpr r.2)]
  exact mk_ok.bind (mx_ttake hs T) (fun v hv => mk_ok.ret ⟨rfl, hv⟩)
theorem mx_takeNumber0 {s : mk_S} {b lo hi : Nat} {h : mm_H} (T : mk_TKX s b h) (h9 : h.1 33 9 = 0) (hl : lo < 10000) (hh : hi < 10000) (e : ¬ mk_nf s b lo hi = 0) : mk_ok (f_Ta_takeNumber (Int32.ofNat lo) (Int32.ofNat hi) h) (fun v => v.1 = -1 ∧ mk_FX (mk_fv (mk_nf s b lo hi) b) h v.2) := by
  unfold f_Ta_takeNumber
  rw [T.2.2.2.2.1]
  by_cases k : mk_kd s b = 2
  · have nl := mk_nu_lt k
    have nf : mk_nf s b lo hi = if lo ≤ mk_nu s b ∧ mk_nu s b ≤ hi then 0 else 4 := if_pos k
    have r : ¬ (lo ≤ mk_nu s b ∧ mk_nu s b ≤ hi) := fun r => e (by rw [nf, if_pos r])
    rw [if_neg r] at nf
    rw [if_pos ((mk_kX_eq s b).2.2.1.mpr k), nf]
    simp only [mm_jp, mm_let]
    rw [T.2.2.2.2.2.2.2.1 k]
    have bad : mk_ok ((f_Ta_wrong 4 h).bind fun v5 => some ((-1 : Int32), v5.2)) (fun v => v.1 = -1 ∧ mk_FX (mk_fv 4 b) h v.2) := mk_ok.bind (mx_wrong (k := 4) T h9) (fun v ⟨a, q⟩ => mk_ok.ret ⟨rfl, q⟩)
    by_cases c : mk_nu s b < lo
    · rw [if_pos ((mn_lt (by omega) (by omega)).mpr c)]; exact bad
    · rw [if_neg (fun z => c ((mn_lt (by omega) (by omega)).mp z)), if_neg (fun z => absurd ((mn_le (by omega) (by omega)).mp z) (by omega))]; exact bad
  · have nf : mk_nf s b lo hi = 1 := if_neg k
    rw [if_neg (fun z => k ((mk_kX_eq s b).2.2.1.mp z)), nf]
    exact mk_ok.bind (mx_wrong (k := 1) T h9) (fun v ⟨a, q⟩ => mk_ok.ret ⟨rfl, q⟩)
