/-! WHAT HOLDS BETWEEN TWO CALLS: beside A, E, r a store u of all else: u 0 [how many can be undone, where the ring ends, marks laid], u (1+i) the i-th row to undo, u (20+m) a mark's row, u (30+10i) a talk's counts (lines, seen), u (31..36+10i) its lines (deed, who, whom, what) and what is seen (secret, fell), talk 0 the gossip, 1+m a mark's, 5 the draft; u 90 how many signs, u 91 the tape; u (100+p), u (110+k) the names: length, letters -/
abbrev mk_U := Nat → Nat → Nat
def mk_code (B : Nat) (w : Nat → Nat) : Nat → Nat
  | 0 => 0
  | n + 1 => mk_code B w n * B + w (n + 1)
/-- a name: 1 to 8 letters of 1 to 26 -/
def mk_nm (w : Nat → Nat) : Prop := 1 ≤ w 0 ∧ w 0 ≤ 8 ∧ ∀ i, 1 ≤ i → i ≤ w 0 → 1 ≤ w i ∧ w i ≤ 26
def mk_TW (A : mk_A) (u : mk_U) (i : Nat) : Prop := u (30 + 10 * i) 0 ≤ 30 ∧ u (30 + 10 * i) 1 ≤ 10 ∧ (∀ k, k < u (30 + 10 * i) 0 → u (31 + 10 * i) k ≤ 3 ∧ (¬ u (31 + 10 * i) k = 3 → u (32 + 10 * i) k < A 263 0) ∧ (u (31 + 10 * i) k = 0 → u (33 + 10 * i) k < A 263 0 ∧ ¬ u (32 + 10 * i) k = u (33 + 10 * i) k ∧ u (34 + 10 * i) k < A 263 1) ∧ (u (31 + 10 * i) k = 1 → 0 < u (34 + 10 * i) k ∧ u (34 + 10 * i) k < 2 ^ A 263 1)) ∧ ∀ k, k < u (30 + 10 * i) 1 → u (35 + 10 * i) k < A 263 1 ∧ u (36 + 10 * i) k ≤ 1
def mk_sign (x : Nat) : Prop := x = 10 ∨ (32 ≤ x ∧ x ≤ 126)
def mk_wf (A : mk_A) (r : Nat → Nat) (u : mk_U) : Prop := mk_T A ∧ mk_W A r ∧ (u 0 0 ≤ 16 ∧ u 0 1 < 16 ∧ ∀ i, i < u 0 0 → mk_W A (u (1 + i))) ∧ (u 0 2 < 16 ∧ ∀ m, m < 4 → (u 0 2).testBit m = true → mk_W A (u (20 + m)) ∧ mk_TW A u (1 + m)) ∧ mk_TW A u 0 ∧ (u 90 0 ≤ 1000 ∧ ∀ k, k < u 90 0 → mk_sign (u 91 k)) ∧ (∀ p, p < A 263 0 → mk_nm (u (100 + p))) ∧ ∀ k, k < A 263 1 → mk_nm (u (110 + k))
def mk_TX (u : mk_U) (c i : Nat) (h : mm_H) : Prop := h.1 c 0 = Int32.ofNat (u (30 + 10 * i) 0) ∧ h.1 c 5 = Int32.ofNat (u (30 + 10 * i) 1) ∧ (∀ k, k < u (30 + 10 * i) 0 → h.1 (c + 1) k = Int32.ofNat (u (31 + 10 * i) k) ∧ (¬ u (31 + 10 * i) k = 3 → h.1 (c + 2) k = Int32.ofNat (u (32 + 10 * i) k)) ∧ (u (31 + 10 * i) k = 0 → h.1 (c + 3) k = Int32.ofNat (u (33 + 10 * i) k)) ∧ (u (31 + 10 * i) k ≤ 1 → h.1 (c + 4) k = Int32.ofNat (u (34 + 10 * i) k))) ∧ ∀ k, k < u (30 + 10 * i) 1 → h.1 (c + 5) k = Int32.ofNat (u (35 + 10 * i) k) ∧ h.1 (c + 6) k = Int32.ofNat (u (36 + 10 * i) k)
def mk_TM (u : mk_U) (i : Nat) (h : mm_H) : Prop := h.1 293 i = Int32.ofNat (u (30 + 10 * i) 0) ∧ h.1 298 i = Int32.ofNat (u (30 + 10 * i) 1) ∧ (∀ k, k < u (30 + 10 * i) 0 → h.1 294 (30 * i + k) = Int32.ofNat (u (31 + 10 * i) k) ∧ (¬ u (31 + 10 * i) k = 3 → h.1 295 (30 * i + k) = Int32.ofNat (u (32 + 10 * i) k)) ∧ (u (31 + 10 * i) k = 0 → h.1 296 (30 * i + k) = Int32.ofNat (u (33 + 10 * i) k)) ∧ (u (31 + 10 * i) k ≤ 1 → h.1 297 (30 * i + k) = Int32.ofNat (u (34 + 10 * i) k))) ∧ ∀ k, k < u (30 + 10 * i) 1 → h.1 299 (10 * i + k) = Int32.ofNat (u (35 + 10 * i) k) ∧ h.1 300 (10 * i + k) = Int32.ofNat (u (36 + 10 * i) k)
def mk_UX (A : mk_A) (u : mk_U) (h : mm_H) : Prop := h.1 32 16 = Int32.ofNat (u 0 0) ∧ h.1 32 17 = Int32.ofNat (u 0 1) ∧ ∀ i, i < u 0 0 → mk_XR A (113 + 6 * ((u 0 1 + 16 - u 0 0 + i) % 16)) (u (1 + i)) h
def mk_KX (A : mk_A) (u : mk_U) (h : mm_H) : Prop := h.1 32 18 = Int32.ofNat (u 0 2) ∧ ∀ m, m < 4 → (u 0 2).testBit m = true → mk_XR A (209 + 13 * m) (u (20 + m)) h ∧ mk_TX u (215 + 13 * m) (1 + m) h
def mk_PX (u : mk_U) (h : mm_H) : Prop := h.1 33 1 = Int32.ofNat (u 90 0) ∧ ∀ k, k < u 90 0 → h.1 34 k = Int32.ofNat (u 91 k)
def mk_NX (A : mk_A) (t : Nat) (u : mk_U) (h : mm_H) : Prop := (∀ p, p < A 263 0 → h.2.1 (t + 1) p = Int64.ofNat (mk_code 32 (u (100 + p)) (u (100 + p) 0))) ∧ ∀ k, k < A 263 1 → h.2.1 (t + 5) k = Int64.ofNat (mk_code 32 (u (110 + k)) (u (110 + k) 0))
def mk_X (A : mk_A) (E : mk_E) (t : Nat) (r : Nat → Nat) (u : mk_U) (h : mm_H) : Prop := (h.2.2 32 14 = some t ∧ h.2.2 32 15 = some (175 - t)) ∧ mk_XT A E t h ∧ mk_XR A 35 r h ∧ mk_UX A u h ∧ mk_KX A u h ∧ mk_TX u 47 0 h ∧ mk_PX u h ∧ mk_NX A t u h
def mk_UM (u : mk_U) (h : mm_H) : Prop := h.1 261 55 = Int32.ofNat (u 0 0) ∧ ∀ i, i < u 0 0 → ∀ j, j < 123 → h.1 304 (123 * i + j) = Int32.ofNat (u (1 + i) j)
def mk_KM (u : mk_U) (h : mm_H) : Prop := ∀ m, m < 4 → h.1 305 m = Int32.ofNat ((u 0 2).testBit m).toNat ∧ ((u 0 2).testBit m = true → (∀ j, j < 123 → h.1 303 (123 * m + j) = Int32.ofNat (u (20 + m) j)) ∧ mk_TM u (1 + m) h)
def mk_PM (u : mk_U) (h : mm_H) : Prop := h.1 261 1 = Int32.ofNat (u 90 0) ∧ ∀ k, k < u 90 0 → h.1 262 k = Int32.ofNat (u 91 k)
def mk_NM (A : mk_A) (u : mk_U) (h : mm_H) : Prop := (∀ p, p < A 263 0 → h.2.1 264 p = Int64.ofNat (mk_code 27 (u (100 + p)) (u (100 + p) 0))) ∧ ∀ k, k < A 263 1 → h.2.1 265 k = Int64.ofNat (mk_code 27 (u (110 + k)) (u (110 + k) 0))
def mk_M (A : mk_A) (E : mk_E) (r : Nat → Nat) (u : mk_U) (h : mm_H) : Prop := mk_MT A E h ∧ mk_MR r h ∧ mk_UM u h ∧ mk_KM u h ∧ mk_TM u 0 h ∧ mk_PM u h ∧ mk_NM A u h
def mk_INV (h : mm_H) : Prop := ∃ (A : mk_A) (E : mk_E) (t : Nat) (r : Nat → Nat) (u : mk_U), mk_wf A r u ∧ mk_X A E t r u h ∧ mk_M A E r u h
/-- cells of the class that hold nothing between two calls -/
def mk_sx (t c : Nat) : Prop := (41 ≤ c ∧ c ≤ 46) ∨ (54 ≤ c ∧ c ≤ 60) ∨ (64 ≤ c ∧ c ≤ 78) ∨ c = t + 16 ∨ (175 - t ≤ c ∧ c ≤ 191 - t)
/-- cells of the reference that hold nothing between two calls (261 aside) -/
def mk_sm (c : Nat) : Prop := (281 ≤ c ∧ c ≤ 292) ∨ c = 302 ∨ 306 ≤ c
theorem mk_TX.ch {D : Nat → Prop} {u : mk_U} {c i : Nat} {h h' : mm_H} (q : mk_TX u c i h) (k : mk_ch D h h') (hD : ∀ j, D j → j < c ∨ c + 6 < j) : mk_TX u c i h' := by
  have n : ∀ j, j ≤ 6 → ¬ D (c + j) := fun j h1 z => by have := hD _ z; omega
  have n0 : ¬ D c := n 0 (by omega)
  obtain ⟨q1, q2, q3, q4⟩ := q
  refine ⟨?_, ?_, ?_, ?_⟩
  · rw [k.e1 n0]; exact q1
  · rw [k.e1 n0]; exact q2
  · rw [k.e1 (n 1 (by omega)), k.e1 (n 2 (by omega)), k.e1 (n 3 (by omega)), k.e1 (n 4 (by omega))]; exact q3
  · rw [k.e1 (n 5 (by omega)), k.e1 (n 6 (by omega))]; exact q4
theorem mk_TM.ch {D : Nat → Prop} {u : mk_U} {i : Nat} {h h' : mm_H} (q : mk_TM u i h) (k : mk_ch D h h') (hD : ∀ j, D j → j < 293 ∨ 300 < j) : mk_TM u i h' := by
  have n : ∀ j, 293 ≤ j → j ≤ 300 → ¬ D j := fun j h1 h2 z => by have := hD _ z; omega
  obtain ⟨q1, q2, q3, q4⟩ := q
  refine ⟨?_, ?_, ?_, ?_⟩
  · rw [k.e1 (n 293 (by omega) (by omega))]; exact q1
  · rw [k.e1 (n 298 (by omega) (by omega))]; exact q2
  · rw [k.e1 (n 294 (by omega) (by omega)), k.e1 (n 295 (by omega) (by omega)), k.e1 (n 296 (by omega) (by omega)), k.e1 (n 297 (by omega) (by omega))]; exact q3
  · rw [k.e1 (n 299 (by omega) (by omega)), k.e1 (n 300 (by omega) (by omega))]; exact q4
theorem mk_UX.ch {D : Nat → Prop} {A : mk_A} {u : mk_U} {h h' : mm_H} (hd : u 0 0 ≤ 16) (q : mk_UX A u h) (k : mk_ch D h h') (h32 : ¬ D 32) (hD : ∀ j, D j → j < 113 ∨ 208 < j) : mk_UX A u h' := by
  obtain ⟨q1, q2, q3⟩ := q
  refine ⟨by rw [k.e1 h32]; exact q1, by rw [k.e1 h32]; exact q2, fun i hi => (q3 i hi).ch k (fun j z => ?_)⟩
  have := hD j z
  have h1 : (u 0 1 + 16 - u 0 0 + i) % 16 < 16 := Nat.mod_lt _ (by omega)
  omega
theorem mk_KX.ch {D : Nat → Prop} {A : mk_A} {u : mk_U} {h h' : mm_H} (q : mk_KX A u h) (k : mk_ch D h h') (h32 : ¬ D 32) (hD : ∀ j, D j → j < 209 ∨ 260 < j) : mk_KX A u h' := by
  obtain ⟨q1, q2⟩ := q
  refine ⟨by rw [k.e1 h32]; exact q1, fun m hm hb => ?_⟩
  obtain ⟨a, b⟩ := q2 m hm hb
  exact ⟨a.ch k (fun j z => by have := hD j z; omega), b.ch k (fun j z => by have := hD j z; omega)⟩
theorem mk_PX.ch {D : Nat → Prop} {u : mk_U} {h h' : mm_H} (q : mk_PX u h) (k : mk_ch D h h') (hD : ¬ D 33 ∧ ¬ D 34) : mk_PX u h' := by
  unfold mk_PX
  rw [k.e1 hD.1, k.e1 hD.2]
  exact q
theorem mk_NX.ch {D : Nat → Prop} {A : mk_A} {t : Nat} {u : mk_U} {h h' : mm_H} (q : mk_NX A t u h) (k : mk_ch D h h') (hD : ¬ D (t + 1) ∧ ¬ D (t + 5)) : mk_NX A t u h' := by
  unfold mk_NX
  rw [k.e2 hD.1, k.e2 hD.2]
  exact q
theorem mk_X.ch {D : Nat → Prop} {A : mk_A} {E : mk_E} {t : Nat} {r : Nat → Nat} {u : mk_U} {h h' : mm_H} (hw : mk_wf A r u) (q : mk_X A E t r u h) (k : mk_ch D h h') (hD : ∀ c, D c → mk_sx t c ∨ 261 ≤ c) : mk_X A E t r u h' := by
  obtain ⟨q0, q1, q2, q3, q4, q5, q6, q7⟩ := q
  have ht := q1.1
  have hd : ∀ c, D c → (41 ≤ c ∧ c ≤ 46) ∨ (54 ≤ c ∧ c ≤ 60) ∨ (64 ≤ c ∧ c ≤ 78) ∨ c = t + 16 ∨ (175 - t ≤ c ∧ c ≤ 191 - t) ∨ 261 ≤ c := fun c z => by
    have := hD c z
    unfold mk_sx at this
    omega
  refine ⟨by rw [k.2]; exact q0, q1.ch k (fun j z => by have := hd j z; omega), q2.ch k (fun j z => by have := hd j z; omega), q3.ch hw.2.2.1.1 k (fun z => by have := hd _ z; omega) (fun j z => by have := hd j z; omega), q4.ch k (fun z => by have := hd _ z; omega) (fun j z => by have := hd j z; omega), q5.ch k (fun j z => by have := hd j z; omega), q6.ch k ⟨fun z => by have := hd _ z; omega, fun z => by have := hd _ z; omega⟩, q7.ch k ⟨fun z => by have := hd _ z; omega, fun z => by have := hd _ z; omega⟩⟩
theorem mk_UM.ch {D : Nat → Prop} {u : mk_U} {h h' : mm_H} (q : mk_UM u h) (k : mk_ch D h h') (e : h'.1 261 55 = h.1 261 55) (hD : ¬ D 304) : mk_UM u h' := by
  unfold mk_UM
  rw [e, k.e1 hD]
  exact q
theorem mk_KM.ch {D : Nat → Prop} {u : mk_U} {h h' : mm_H} (q : mk_KM u h) (k : mk_ch D h h') (hD : ∀ j, D j → j < 293 ∨ (300 < j ∧ ¬ j = 303 ∧ ¬ j = 305)) : mk_KM u h' := by
  intro m hm
  obtain ⟨a, b⟩ := q m hm
  rw [k.e1 (fun z => by have := hD _ z; omega), k.e1 (c := 303) (fun z => by have := hD _ z; omega)]
  exact ⟨a, fun z => ⟨(b z).1, (b z).2.ch k (fun j y => by have := hD j y; omega)⟩⟩
theorem mk_PM.ch {D : Nat → Prop} {u : mk_U} {h h' : mm_H} (q : mk_PM u h) (k : mk_ch D h h') (e : h'.1 261 1 = h.1 261 1) (hD : ¬ D 262) : mk_PM u h' := by
  unfold mk_PM
  rw [e, k.e1 hD]
  exact q
theorem mk_NM.ch {D : Nat → Prop} {A : mk_A} {u : mk_U} {h h' : mm_H} (q : mk_NM A u h) (k : mk_ch D h h') (hD : ¬ D 264 ∧ ¬ D 265) : mk_NM A u h' := by
  unfold mk_NM
  rw [k.e2 hD.1, k.e2 hD.2]
  exact q
/-- the reference's scratch: whole cells, and 261 but for the tape's length and what can be undone -/
def mk_s2m (h h' : mm_H) : Prop := mk_ch (fun c => mk_sm c ∨ c = 261) h h' ∧ h'.1 261 1 = h.1 261 1 ∧ h'.1 261 55 = h.1 261 55
theorem mk_s2m.rf {h : mm_H} : mk_s2m h h := ⟨mk_ch.rf, rfl, rfl⟩
theorem mk_s2m.tr {h h1 h2 : mm_H} (a : mk_s2m h h1) (b : mk_s2m h1 h2) : mk_s2m h h2 := ⟨a.1.tr b.1 (fun _ q => q) (fun _ q => q), b.2.1.trans a.2.1, b.2.2.trans a.2.2⟩
theorem mk_s2m.of {D : Nat → Prop} {h h1 : mm_H} (a : mk_ch D h h1) (hD : ∀ c, D c → mk_sm c) : mk_s2m h h1 := by
  have n : ¬ D 261 := fun z => by have := hD _ z; unfold mk_sm at this; omega
  exact ⟨a.mono (fun c z => Or.inl (hD c z)), by rw [a.e1 n], by rw [a.e1 n]⟩
theorem mk_s2m.pI {h : mm_H} {j : Nat} {v : Int32} (hj : ¬ j = 1 ∧ ¬ j = 55) : mk_s2m h (mm_pI h 261 j v) := by
  refine ⟨mk_ch.pI (Or.inr rfl), ?_, ?_⟩
  · rw [mp_I1, if_neg (fun z => hj.1 z.2.symm)]
  · rw [mp_I1, if_neg (fun z => hj.2 z.2.symm)]
theorem mk_s2m.pL {h : mm_H} {j : Nat} {v : Int64} : mk_s2m h (mm_pL h 261 j v) := ⟨mk_ch.pL (Or.inr rfl), rfl, rfl⟩
theorem mk_M.s2 {A : mk_A} {E : mk_E} {r : Nat → Nat} {u : mk_U} {h h' : mm_H} (q : mk_M A E r u h) (k : mk_s2m h h') : mk_M A E r u h' := by
  obtain ⟨q1, q2, q3, q4, q5, q6, q7⟩ := q
  obtain ⟨k1, k2, k3⟩ := k
  have hd : ∀ c, (mk_sm c ∨ c = 261) → (281 ≤ c ∧ c ≤ 292) ∨ c = 302 ∨ 306 ≤ c ∨ c = 261 := fun c z => by unfold mk_sm at z; omega
  exact ⟨q1.ch k1 (fun j z => by have := hd j z; omega), q2.ch k1 (fun z => by have := hd _ z; omega), q3.ch k1 k3 (fun z => by have := hd _ z; omega), q4.ch k1 (fun j z => by have := hd j z; omega), q5.ch k1 (fun j z => by have := hd j z; omega), q6.ch k1 k2 (fun z => by have := hd _ z; omega), q7.ch k1 ⟨fun z => by have := hd _ z; omega, fun z => by have := hd _ z; omega⟩⟩
/-- nothing of the reference, nothing of the class is touched -/
def mk_fM (h h' : mm_H) : Prop := ∀ c, 261 ≤ c → h'.1 c = h.1 c ∧ h'.2.1 c = h.2.1 c
def mk_fX (h h' : mm_H) : Prop := (∀ c, c < 261 → h'.1 c = h.1 c ∧ h'.2.1 c = h.2.1 c) ∧ h'.2.2 = h.2.2
theorem mk_fM.of {D : Nat → Prop} {h h' : mm_H} (k : mk_ch D h h') (hD : ∀ c, D c → c < 261) : mk_fM h h' := fun c hc => k.1 c (fun z => by have := hD c z; omega)
theorem mk_fX.of {D : Nat → Prop} {h h' : mm_H} (k : mk_ch D h h') (hD : ∀ c, D c → 261 ≤ c) : mk_fX h h' := ⟨fun c hc => k.1 c (fun z => by have := hD c z; omega), k.2⟩
theorem mk_fX.s2 {h h' : mm_H} (k : mk_s2m h h') : mk_fX h h' := mk_fX.of k.1 (fun c z => by unfold mk_sm at z; omega)
theorem mk_fM.tr {h h1 h2 : mm_H} (a : mk_fM h h1) (b : mk_fM h1 h2) : mk_fM h h2 := fun c hc => ⟨(b c hc).1.trans (a c hc).1, (b c hc).2.trans (a c hc).2⟩
theorem mk_fX.tr {h h1 h2 : mm_H} (a : mk_fX h h1) (b : mk_fX h1 h2) : mk_fX h h2 := ⟨fun c hc => ⟨(b.1 c hc).1.trans (a.1 c hc).1, (b.1 c hc).2.trans (a.1 c hc).2⟩, b.2.trans a.2⟩
theorem mk_M.fM {A : mk_A} {E : mk_E} {r : Nat → Nat} {u : mk_U} {h h' : mm_H} (q : mk_M A E r u h) (k : mk_fM h h') : mk_M A E r u h' := by
  have k1 : mk_ch (fun c => c < 261) h ⟨h'.1, h'.2.1, h.2.2⟩ := ⟨fun c hc => k c (by omega), rfl⟩
  obtain ⟨q1, q2, q3, q4, q5, q6, q7⟩ := q
  have r1 := q1.ch k1 (fun j z => by omega)
  have r2 := q2.ch k1 (by omega)
  have r3 := q3.ch k1 (by rw [(k 261 (by omega)).1]) (by omega)
  have r4 := q4.ch k1 (fun j z => by omega)
  have r5 := q5.ch k1 (fun j z => by omega)
  have r6 := q6.ch k1 (by rw [(k 261 (by omega)).1]) (by omega)
  have r7 := q7.ch k1 ⟨by omega, by omega⟩
  refine ⟨⟨r1.1, r1.2.1, r1.2.2.1, r1.2.2.2.1, r1.2.2.2.2⟩, r2, r3, r4, r5, r6, r7⟩
theorem mk_X.fX {A : mk_A} {E : mk_E} {t : Nat} {r : Nat → Nat} {u : mk_U} {h h' : mm_H} (hw : mk_wf A r u) (q : mk_X A E t r u h) (k : mk_fX h h') : mk_X A E t r u h' := q.ch hw (D := fun c => 261 ≤ c) ⟨fun c hc => k.1 c (by omega), k.2⟩ (fun c z => Or.inr z)
/-- a call: the class, then the reference, keep all and answer alike -/
def mk_call {α : Type} (fX fM : mm_H → Option (α × mm_H)) : Prop := ∀ h, mk_INV h → ∃ a h1 h2, fX h = some (a, h1) ∧ fM h1 = some (a, h2) ∧ mk_INV h2
theorem mk_callof {α : Type} {fX fM : mm_H → Option (α × mm_H)}
    (H : ∀ (A : mk_A) (E : mk_E) (t : Nat) (r : Nat → Nat) (u : mk_U), mk_wf A r u → ∃ (a : α) (r' : Nat → Nat) (u' : mk_U) (t' : Nat), mk_wf A r' u' ∧
      (∀ h, mk_X A E t r u h → mk_ok (fX h) (fun v => v.1 = a ∧ mk_X A E t' r' u' v.2 ∧ mk_fM h v.2)) ∧
      (∀ h, mk_M A E r u h → mk_ok (fM h) (fun v => v.1 = a ∧ mk_M A E r' u' v.2 ∧ mk_fX h v.2))) : mk_call fX fM := by
  intro h hI
  obtain ⟨A, E, t, r, u, hw, hX, hM⟩ := hI
  obtain ⟨a, r', u', t', hw', k1, k2⟩ := H A E t r u hw
  obtain ⟨⟨a1, h1⟩, e1, rfl, x1, f1⟩ := k1 h hX
  obtain ⟨⟨a2, h2⟩, e2, rfl, m2, f2⟩ := k2 h1 (hM.fM f1)
  exact ⟨a2, h1, h2, e1, e2, A, E, t', r', u', hw', x1.fX hw' f2, m2⟩
