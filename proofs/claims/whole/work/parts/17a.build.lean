/-! TOWN: what is being read lies in the class's draft d, in the reference's upper halves -/
def mj_tx (m d : Nat) (h h' : mm_H) : Prop := mk_cr (fun c => c = 33 ∨ (d ≤ c ∧ c ≤ d + m)) h h' ∧ h'.1 33 1 = h.1 33 1
theorem mj_tx.rf {m d : Nat} {h : mm_H} : mj_tx m d h h := ⟨mk_cr.rf, rfl⟩
theorem mj_tx.tr {m d : Nat} {h h1 h2 : mm_H} (a : mj_tx m d h h1) (b : mj_tx m d h1 h2) : mj_tx m d h h2 := ⟨a.1.tr b.1 (fun _ z => z) (fun _ z => z), b.2.trans a.2⟩
theorem mk_fx.tx {m d : Nat} {h h' : mm_H} (k : mk_fx h h') : mj_tx m d h h' := ⟨k.1.mono (fun _ z => Or.inl z), k.2.1⟩
theorem mk_FX.tx {m d : Nat} {v : Int32} {h h' : mm_H} (k : mk_FX v h h') : mj_tx m d h h' := ⟨k.1.mono (fun _ z => Or.inl z), k.2.1⟩
theorem mj_tx.p {m d c j : Nat} {h : mm_H} {v : Int32} (hc : d ≤ c ∧ c ≤ d + m) (hd : 33 < d) : mj_tx m d h (mm_pI h c j v) := ⟨mk_cr.of (mk_ch.pI (Or.inr hc)), by rw [mp_I1, if_neg (by omega)]⟩
theorem mj_tx.pL {m d c j : Nat} {h : mm_H} {v : Int64} (hc : d ≤ c ∧ c ≤ d + m) : mj_tx m d h (mm_pL h c j v) := ⟨mk_cr.of (mk_ch.pL (Or.inr hc)), rfl⟩
theorem mj_tx.up {m m' d : Nat} {h h' : mm_H} (k : mj_tx m d h h') (hm : m ≤ m') : mj_tx m' d h h' := ⟨k.1.mono (fun c z => by omega), k.2⟩
def mj_low (c : Nat) : Nat := if c = 263 then 4 else if c = 264 ∨ (266 ≤ c ∧ c ≤ 268) then 6 else if c = 265 ∨ (269 ≤ c ∧ c ≤ 274) then 10 else if 275 ≤ c ∧ c ≤ 277 then 30 else if c = 278 ∨ c = 279 then 1 else if c = 280 then 1000 else 0
def mj_ty (m : Nat) (h h' : mm_H) : Prop := mk_ch (fun c => c = 261 ∨ (263 ≤ c ∧ c ≤ m)) h h' ∧ (∀ j, ¬ j = 4 → ¬ j = 5 → ¬ j = 6 → ¬ j = 8 → ¬ j = 9 → (j = 28 → m < 278) → ¬ j = 41 → h'.1 261 j = h.1 261 j) ∧ (∀ c j, 263 ≤ c → c ≤ 280 → j < mj_low c → h'.1 c j = h.1 c j) ∧ ∀ c j, 264 ≤ c → c ≤ 265 → j < mj_low c → h'.2.1 c j = h.2.1 c j
theorem mj_ty.rf {m : Nat} {h : mm_H} : mj_ty m h h := ⟨mk_ch.rf, fun _ _ _ _ _ _ _ _ => rfl, fun _ _ _ _ _ => rfl, fun _ _ _ _ _ => rfl⟩
theorem mj_ty.tr {m : Nat} {h h1 h2 : mm_H} (a : mj_ty m h h1) (b : mj_ty m h1 h2) : mj_ty m h h2 := ⟨a.1.tr b.1 (fun _ z => z) (fun _ z => z), fun j n1 n2 n3 n4 n5 n6 n7 => (b.2.1 j n1 n2 n3 n4 n5 n6 n7).trans (a.2.1 j n1 n2 n3 n4 n5 n6 n7), fun c j c1 c2 hj => (b.2.2.1 c j c1 c2 hj).trans (a.2.2.1 c j c1 c2 hj), fun c j c1 c2 hj => (b.2.2.2 c j c1 c2 hj).trans (a.2.2.2 c j c1 c2 hj)⟩
theorem mj_ty.up {m m' : Nat} {h h' : mm_H} (k : mj_ty m h h') (hm : m ≤ m') : mj_ty m' h h' := ⟨k.1.mono (fun c z => by omega), fun j n1 n2 n3 n4 n5 n6 n7 => k.2.1 j n1 n2 n3 n4 n5 (fun z => by have := n6 z; omega) n7, k.2.2⟩
theorem mk_fy.ty {m : Nat} {h h' : mm_H} (k : mk_fy h h') : mj_ty m h h' := ⟨k.1.mono (fun _ z => Or.inl z), fun j n1 n2 n3 n4 _ _ _ => k.2 j n1 n2 n3 n4, fun c j c1 c2 _ => by rw [k.1.e1 (by omega)], fun c j c1 c2 _ => by rw [k.1.e2 (by omega)]⟩
theorem mk_FM.ty {m : Nat} {v : Int32} {h h' : mm_H} (k : mk_FM v h h') : mj_ty m h h' := ⟨k.1.mono (fun _ z => Or.inl z), fun j n1 n2 n3 n4 n5 _ n7 => k.2.1 j n1 n2 n3 n4 n5 n7, fun c j c1 c2 _ => by rw [k.1.e1 (by omega)], fun c j c1 c2 _ => by rw [k.1.e2 (by omega)]⟩
theorem mk_GV.ty {m : Nat} {v : Int32} {h h' : mm_H} (k : mk_GV v h h') : mj_ty m h h' := ⟨k.1.mono (fun _ z => Or.inl z), fun j n1 n2 n3 n4 _ _ n7 => k.2.1 j n1 n2 n3 n4 n7, fun c j c1 c2 _ => by rw [k.1.e1 (by omega)], fun c j c1 c2 _ => by rw [k.1.e2 (by omega)]⟩
theorem mj_ty.g {m : Nat} {h : mm_H} {v : Int32} : mj_ty m h (mm_pI h 261 41 v) := ⟨mk_ch.pI (Or.inl rfl), fun i n1 n2 n3 n4 n5 n6 n7 => by rw [mp_I1, if_neg (by omega)], fun c i c1 c2 _ => by rw [mp_I1, if_neg (by omega)], fun _ _ _ _ _ => rfl⟩
theorem mj_ty.g28 {m : Nat} {h : mm_H} {v : Int32} (hm : 278 ≤ m) : mj_ty m h (mm_pI h 261 28 v) := ⟨mk_ch.pI (Or.inl rfl), fun i n1 n2 n3 n4 n5 n6 n7 => by rw [mp_I1, if_neg (fun z => by have := n6 z.2; omega)], fun c i c1 c2 _ => by rw [mp_I1, if_neg (by omega)], fun _ _ _ _ _ => rfl⟩
theorem mj_ty.p {m : Nat} {h : mm_H} {c j : Nat} {v : Int32} (hc : 263 ≤ c ∧ c ≤ m) (hj : mj_low c ≤ j) : mj_ty m h (mm_pI h c j v) := ⟨mk_ch.pI (Or.inr hc), fun i _ _ _ _ _ _ _ => by rw [mp_I1, if_neg (by omega)], fun c' i c1 c2 hi => by rw [mp_I1, if_neg (fun z => by rw [z.1, z.2] at hi; omega)], fun _ _ _ _ _ => rfl⟩
theorem mj_ty.pL {m : Nat} {h : mm_H} {c j : Nat} {v : Int64} (hc : 263 ≤ c ∧ c ≤ m) (hj : mj_low c ≤ j) : mj_ty m h (mm_pL h c j v) := ⟨mk_ch.pL (Or.inr hc), fun i _ _ _ _ _ _ _ => rfl, fun _ _ _ _ _ => rfl, fun c' i c1 c2 hi => by rw [mp_L2, if_neg (fun z => by rw [z.1, z.2] at hi; omega)]⟩
theorem mj_fs.ty {m k : Nat} {h h' : mm_H} (q : mj_fs 273 k h h') (hm : 273 ≤ m) (hk : 10 ≤ k) : mj_ty m h h' := ⟨q.1.mono (fun c z => by omega), fun j n1 n2 n3 n4 _ _ n7 => q.2.1 j n1 n2 n3 n4 n7, fun c j c1 c2 hj => by
  by_cases e : c = 273
  · subst e
    exact q.2.2 j (by have : j < 10 := hj; omega)
  · rw [q.1.e1 (by omega)], fun c j c1 c2 _ => by rw [q.1.e2 (by omega)]⟩
theorem mj_fsF.ty {m k : Nat} {v : Int32} {h h' : mm_H} (q : mj_fsF v 273 k h h') (hm : 273 ≤ m) (hk : 10 ≤ k) : mj_ty m h h' := ⟨q.1.mono (fun c z => by omega), fun j n1 n2 n3 n4 n5 _ n7 => q.2.1 j n1 n2 n3 n4 n5 n7, fun c j c1 c2 hj => by
  by_cases e : c = 273
  · subst e
    exact q.2.2.1 j (by have : j < 10 := hj; omega)
  · rw [q.1.e1 (by omega)], fun c j c1 c2 _ => by rw [q.1.e2 (by omega)]⟩
def mj_BX (A : mk_A) (nP nS : Nat → Nat → Nat) (d : Nat) (h : mm_H) : Prop := (h.1 d 0 = Int32.ofNat (A 263 0)) ∧ (h.1 d 6 = Int32.ofNat (A 263 1)) ∧ (h.1 d 13 = Int32.ofNat (A 263 2)) ∧ (h.1 d 17 = Int32.ofNat (A 263 3)) ∧ (h.1 d 5 = Int32.ofNat (mk_pr A)) ∧ (h.1 d 8 = Int32.ofNat (A 999 0)) ∧ (∀ p, p < A 263 0 → h.1 (d + 2) p = Int32.ofNat (A 266 p) ∧ h.1 (d + 3) p = Int32.ofNat (A 267 p) ∧ h.1 (d + 4) p = Int32.ofNat (A 268 p)) ∧ (∀ k, k < A 263 1 → h.1 (d + 6) k = Int32.ofNat (A 270 k) ∧ h.1 (d + 7) k = Int32.ofNat (A 271 k) ∧ h.1 (d + 8) k = Int32.ofNat (A 272 k) - 1 ∧ h.1 (d + 9) k = Int32.ofNat (A 273 k)) ∧ (∀ k, k < 10 → h.1 (d + 13) k = Int32.ofNat (A 274 k)) ∧ (∀ e, e < A 263 2 → h.1 (d + 10) e = Int32.ofNat (A 275 e) ∧ h.1 (d + 11) e = Int32.ofNat (A 276 e)) ∧ (∀ p q, p < 6 → q < 6 → h.1 (d + 12) (p * 6 + q) = Int32.ofNat (mk_ear A p q (A 263 2)) - 1) ∧ (∀ k, k < A 263 0 → h.2.1 (d + 1) k = Int64.ofNat (mk_c32 (nP k))) ∧ (∀ k, k < A 263 1 → h.2.1 (d + 5) k = Int64.ofNat (mk_c32 (nS k)))
theorem mj_BX.c0 {A : mk_A} {nP nS : Nat → Nat → Nat} {d : Nat} {h : mm_H} (q : mj_BX A nP nS d h) : h.1 d 0 = Int32.ofNat (A 263 0) := q.1
theorem mj_BX.c6 {A : mk_A} {nP nS : Nat → Nat → Nat} {d : Nat} {h : mm_H} (q : mj_BX A nP nS d h) : h.1 d 6 = Int32.ofNat (A 263 1) := q.2.1
theorem mj_BX.c13 {A : mk_A} {nP nS : Nat → Nat → Nat} {d : Nat} {h : mm_H} (q : mj_BX A nP nS d h) : h.1 d 13 = Int32.ofNat (A 263 2) := q.2.2.1
theorem mj_BX.c17 {A : mk_A} {nP nS : Nat → Nat → Nat} {d : Nat} {h : mm_H} (q : mj_BX A nP nS d h) : h.1 d 17 = Int32.ofNat (A 263 3) := q.2.2.2.1
theorem mj_BX.c5 {A : mk_A} {nP nS : Nat → Nat → Nat} {d : Nat} {h : mm_H} (q : mj_BX A nP nS d h) : h.1 d 5 = Int32.ofNat (mk_pr A) := q.2.2.2.2.1
theorem mj_BX.c8 {A : mk_A} {nP nS : Nat → Nat → Nat} {d : Nat} {h : mm_H} (q : mj_BX A nP nS d h) : h.1 d 8 = Int32.ofNat (A 999 0) := q.2.2.2.2.2.1
theorem mj_BX.pp {A : mk_A} {nP nS : Nat → Nat → Nat} {d : Nat} {h : mm_H} (q : mj_BX A nP nS d h) : ∀ p, p < A 263 0 → h.1 (d + 2) p = Int32.ofNat (A 266 p) ∧ h.1 (d + 3) p = Int32.ofNat (A 267 p) ∧ h.1 (d + 4) p = Int32.ofNat (A 268 p) := q.2.2.2.2.2.2.1
theorem mj_BX.ss {A : mk_A} {nP nS : Nat → Nat → Nat} {d : Nat} {h : mm_H} (q : mj_BX A nP nS d h) : ∀ k, k < A 263 1 → h.1 (d + 6) k = Int32.ofNat (A 270 k) ∧ h.1 (d + 7) k = Int32.ofNat (A 271 k) ∧ h.1 (d + 8) k = Int32.ofNat (A 272 k) - 1 ∧ h.1 (d + 9) k = Int32.ofNat (A 273 k) := q.2.2.2.2.2.2.2.1
theorem mj_BX.cl {A : mk_A} {nP nS : Nat → Nat → Nat} {d : Nat} {h : mm_H} (q : mj_BX A nP nS d h) : ∀ k, k < 10 → h.1 (d + 13) k = Int32.ofNat (A 274 k) := q.2.2.2.2.2.2.2.2.1
theorem mj_BX.ee {A : mk_A} {nP nS : Nat → Nat → Nat} {d : Nat} {h : mm_H} (q : mj_BX A nP nS d h) : ∀ e, e < A 263 2 → h.1 (d + 10) e = Int32.ofNat (A 275 e) ∧ h.1 (d + 11) e = Int32.ofNat (A 276 e) := q.2.2.2.2.2.2.2.2.2.1
theorem mj_BX.tb {A : mk_A} {nP nS : Nat → Nat → Nat} {d : Nat} {h : mm_H} (q : mj_BX A nP nS d h) : ∀ p q, p < 6 → q < 6 → h.1 (d + 12) (p * 6 + q) = Int32.ofNat (mk_ear A p q (A 263 2)) - 1 := q.2.2.2.2.2.2.2.2.2.2.1
theorem mj_BX.np {A : mk_A} {nP nS : Nat → Nat → Nat} {d : Nat} {h : mm_H} (q : mj_BX A nP nS d h) : ∀ k, k < A 263 0 → h.2.1 (d + 1) k = Int64.ofNat (mk_c32 (nP k)) := q.2.2.2.2.2.2.2.2.2.2.2.1
theorem mj_BX.ns {A : mk_A} {nP nS : Nat → Nat → Nat} {d : Nat} {h : mm_H} (q : mj_BX A nP nS d h) : ∀ k, k < A 263 1 → h.2.1 (d + 5) k = Int64.ofNat (mk_c32 (nS k)) := q.2.2.2.2.2.2.2.2.2.2.2.2
def mj_BM (A : mk_A) (nP nS : Nat → Nat → Nat) (h : mm_H) : Prop := (h.1 263 4 = Int32.ofNat (A 263 0)) ∧ (h.1 263 5 = Int32.ofNat (A 263 1)) ∧ (h.1 263 6 = Int32.ofNat (A 263 2)) ∧ (h.1 263 7 = Int32.ofNat (A 263 3)) ∧ (∀ p, p < A 263 0 → h.1 266 (6 + p) = Int32.ofNat (A 266 p) ∧ h.1 267 (6 + p) = Int32.ofNat (A 267 p) ∧ h.1 268 (6 + p) = Int32.ofNat (A 268 p)) ∧ (∀ k, k < A 263 1 → h.1 269 (10 + k) = Int32.ofNat (A 269 k) ∧ h.1 270 (10 + k) = Int32.ofNat (A 270 k) ∧ h.1 271 (10 + k) = Int32.ofNat (A 271 k) ∧ h.1 272 (10 + k) = Int32.ofNat (A 272 k) - 1 ∧ h.1 273 (10 + k) = Int32.ofNat (A 273 k) ∧ h.1 274 (10 + k) = Int32.ofNat (A 274 k)) ∧ (∀ e, e < A 263 2 → h.1 275 (30 + e) = Int32.ofNat (A 275 e) ∧ h.1 276 (30 + e) = Int32.ofNat (A 276 e) ∧ h.1 277 (30 + e) = Int32.ofNat (A 277 e)) ∧ (∀ k, k < A 263 0 → h.2.1 264 (6 + k) = Int64.ofNat (mk_c27 (nP k))) ∧ (∀ k, k < A 263 1 → h.2.1 265 (10 + k) = Int64.ofNat (mk_c27 (nS k)))
theorem mj_BM.c4 {A : mk_A} {nP nS : Nat → Nat → Nat} {h : mm_H} (q : mj_BM A nP nS h) : h.1 263 4 = Int32.ofNat (A 263 0) := q.1
theorem mj_BM.c5 {A : mk_A} {nP nS : Nat → Nat → Nat} {h : mm_H} (q : mj_BM A nP nS h) : h.1 263 5 = Int32.ofNat (A 263 1) := q.2.1
theorem mj_BM.c6 {A : mk_A} {nP nS : Nat → Nat → Nat} {h : mm_H} (q : mj_BM A nP nS h) : h.1 263 6 = Int32.ofNat (A 263 2) := q.2.2.1
theorem mj_BM.c7 {A : mk_A} {nP nS : Nat → Nat → Nat} {h : mm_H} (q : mj_BM A nP nS h) : h.1 263 7 = Int32.ofNat (A 263 3) := q.2.2.2.1
theorem mj_BM.pp {A : mk_A} {nP nS : Nat → Nat → Nat} {h : mm_H} (q : mj_BM A nP nS h) : ∀ p, p < A 263 0 → h.1 266 (6 + p) = Int32.ofNat (A 266 p) ∧ h.1 267 (6 + p) = Int32.ofNat (A 267 p) ∧ h.1 268 (6 + p) = Int32.ofNat (A 268 p) := q.2.2.2.2.1
theorem mj_BM.ss {A : mk_A} {nP nS : Nat → Nat → Nat} {h : mm_H} (q : mj_BM A nP nS h) : ∀ k, k < A 263 1 → h.1 269 (10 + k) = Int32.ofNat (A 269 k) ∧ h.1 270 (10 + k) = Int32.ofNat (A 270 k) ∧ h.1 271 (10 + k) = Int32.ofNat (A 271 k) ∧ h.1 272 (10 + k) = Int32.ofNat (A 272 k) - 1 ∧ h.1 273 (10 + k) = Int32.ofNat (A 273 k) ∧ h.1 274 (10 + k) = Int32.ofNat (A 274 k) := q.2.2.2.2.2.1
theorem mj_BM.ee {A : mk_A} {nP nS : Nat → Nat → Nat} {h : mm_H} (q : mj_BM A nP nS h) : ∀ e, e < A 263 2 → h.1 275 (30 + e) = Int32.ofNat (A 275 e) ∧ h.1 276 (30 + e) = Int32.ofNat (A 276 e) ∧ h.1 277 (30 + e) = Int32.ofNat (A 277 e) := q.2.2.2.2.2.2.1
theorem mj_BM.np {A : mk_A} {nP nS : Nat → Nat → Nat} {h : mm_H} (q : mj_BM A nP nS h) : ∀ k, k < A 263 0 → h.2.1 264 (6 + k) = Int64.ofNat (mk_c27 (nP k)) := q.2.2.2.2.2.2.2.1
theorem mj_BM.ns {A : mk_A} {nP nS : Nat → Nat → Nat} {h : mm_H} (q : mj_BM A nP nS h) : ∀ k, k < A 263 1 → h.2.1 265 (10 + k) = Int64.ofNat (mk_c27 (nS k)) := q.2.2.2.2.2.2.2.2
def mj_BT (A : mk_A) (nP nS : Nat → Nat → Nat) : Prop := (mk_T A) ∧ (∀ k, A 263 1 ≤ k → k < 10 → A 274 k = 0) ∧ (mj_nms (A 263 0) nP) ∧ (mj_nms (A 263 1) nS) ∧ (A 999 0 = mk_fa A)
theorem mj_BT.T {A : mk_A} {nP nS : Nat → Nat → Nat} (q : mj_BT A nP nS) : mk_T A := q.1
theorem mj_BT.z {A : mk_A} {nP nS : Nat → Nat → Nat} (q : mj_BT A nP nS) : ∀ k, A 263 1 ≤ k → k < 10 → A 274 k = 0 := q.2.1
theorem mj_BT.oP {A : mk_A} {nP nS : Nat → Nat → Nat} (q : mj_BT A nP nS) : mj_nms (A 263 0) nP := q.2.2.1
theorem mj_BT.oS {A : mk_A} {nP nS : Nat → Nat → Nat} (q : mj_BT A nP nS) : mj_nms (A 263 1) nS := q.2.2.2.1
theorem mj_BT.fa {A : mk_A} {nP nS : Nat → Nat → Nat} (q : mj_BT A nP nS) : A 999 0 = mk_fa A := q.2.2.2.2
theorem mj_BX.cr {D : Nat → Prop} {A : mk_A} {nP nS : Nat → Nat → Nat} {d : Nat} {h h' : mm_H} (q : mj_BX A nP nS d h) (k : mk_cr D h h') (hD : ∀ j, D j → j < d ∨ d + 13 < j) : mj_BX A nP nS d h' := by
  have n : ∀ j, j ≤ 13 → ¬ D (d + j) := fun j h1 z => by have := hD _ z; omega
  have n0 : ¬ D d := n 0 (by omega)
  obtain ⟨a1, a2, a3, a4, a5, a6, a7, a8, a9, a10, a11, a12, a13⟩ := q
  refine ⟨?_, ?_, ?_, ?_, ?_, ?_, ?_, ?_, ?_, ?_, ?_, ?_, ?_⟩
  · rw [k.e1 n0]; exact a1
  · rw [k.e1 n0]; exact a2
  · rw [k.e1 n0]; exact a3
  · rw [k.e1 n0]; exact a4
  · rw [k.e1 n0]; exact a5
  · rw [k.e1 n0]; exact a6
  · rw [k.e1 (n 2 (by omega)), k.e1 (n 3 (by omega)), k.e1 (n 4 (by omega))]; exact a7
  · rw [k.e1 (n 6 (by omega)), k.e1 (n 7 (by omega)), k.e1 (n 8 (by omega)), k.e1 (n 9 (by omega))]; exact a8
  · rw [k.e1 (n 13 (by omega))]; exact a9
  · rw [k.e1 (n 10 (by omega)), k.e1 (n 11 (by omega))]; exact a10
  · rw [k.e1 (n 12 (by omega))]; exact a11
  · rw [k.e2 (n 1 (by omega))]; exact a12
  · rw [k.e2 (n 5 (by omega))]; exact a13
theorem mj_BM.ch {D : Nat → Prop} {A : mk_A} {nP nS : Nat → Nat → Nat} {h h' : mm_H} (q : mj_BM A nP nS h) (k : mk_ch D h h') (hD : ∀ j, D j → j < 263 ∨ 277 < j) : mj_BM A nP nS h' := by
  have n : ∀ j, 263 ≤ j → j ≤ 277 → ¬ D j := fun j h1 h2 z => by have := hD _ z; omega
  obtain ⟨a1, a2, a3, a4, a5, a6, a7, a8, a9⟩ := q
  refine ⟨?_, ?_, ?_, ?_, ?_, ?_, ?_, ?_, ?_⟩
  · rw [k.e1 (n 263 (by omega) (by omega))]; exact a1
  · rw [k.e1 (n 263 (by omega) (by omega))]; exact a2
  · rw [k.e1 (n 263 (by omega) (by omega))]; exact a3
  · rw [k.e1 (n 263 (by omega) (by omega))]; exact a4
  · rw [k.e1 (n 266 (by omega) (by omega)), k.e1 (n 267 (by omega) (by omega)), k.e1 (n 268 (by omega) (by omega))]; exact a5
  · rw [k.e1 (n 269 (by omega) (by omega)), k.e1 (n 270 (by omega) (by omega)), k.e1 (n 271 (by omega) (by omega)), k.e1 (n 272 (by omega) (by omega)), k.e1 (n 273 (by omega) (by omega)), k.e1 (n 274 (by omega) (by omega))]; exact a6
  · rw [k.e1 (n 275 (by omega) (by omega)), k.e1 (n 276 (by omega) (by omega)), k.e1 (n 277 (by omega) (by omega))]; exact a7
  · rw [k.e2 (n 264 (by omega) (by omega))]; exact a8
  · rw [k.e2 (n 265 (by omega) (by omega))]; exact a9
theorem mj_BX.NX {A : mk_A} {nP nS : Nat → Nat → Nat} {d : Nat} {h : mm_H} (q : mj_BX A nP nS d h) : mj_NAX d (A 263 0) (A 263 1) nP nS h := ⟨⟨q.c0, q.np⟩, ⟨q.c6, q.ns⟩⟩
theorem mj_BM.NM {A : mk_A} {nP nS : Nat → Nat → Nat} {h : mm_H} (q : mj_BM A nP nS h) : mj_NAM 1 (A 263 0) (A 263 1) nP nS h := ⟨⟨q.c4, q.np⟩, ⟨q.c5, q.ns⟩⟩
theorem mk_TKX.cell {s : mk_S} {b c j : Nat} {h : mm_H} {v : Int32} (T : mk_TKX s b h) (hc : ¬ c = 33 ∧ ¬ c = 34) : mk_TKX s b (mm_pI h c j v) := by
  obtain ⟨t0, t1, t2, t3, t4, t5, t6, t7, t8⟩ := T
  refine ⟨t0, ⟨?_, fun k hk => ?_⟩, ?_, ?_, ?_, t5, t6, fun z => ?_, fun z => ?_⟩
  · rw [mp_I1, if_neg (by omega)]; exact t1.1
  · rw [mp_I1, if_neg (by omega)]; exact t1.2 k hk
  · rw [mp_I1, if_neg (by omega)]; exact t2
  · rw [mp_I1, if_neg (by omega)]; exact t3
  · rw [mp_I1, if_neg (by omega)]; exact t4
  · rw [mp_I1, if_neg (by omega)]; exact t7 z
  · rw [mp_I1, if_neg (by omega)]; exact t8 z
theorem mk_TKX.cellL {s : mk_S} {b c j : Nat} {h : mm_H} {v : Int64} (T : mk_TKX s b h) (hc : ¬ c = 33) : mk_TKX s b (mm_pL h c j v) := by
  obtain ⟨t0, t1, t2, t3, t4, t5, t6, t7, t8⟩ := T
  exact ⟨t0, t1, t2, t3, t4, t5, fun z => by rw [mp_L2, if_neg (by omega)]; exact t6 z, t7, t8⟩
/-- a word and a number behind it, both sides -/
theorem mj_wn {s : mk_S} {b i lo hi : Nat} {hX hM : mm_H} (hs : mk_sgs s) (hi28 : i < 28) (hl : lo < 10000) (hh : hi < 10000) (TX : mk_TKX s b hX) (h9 : hX.1 33 9 = 0) (TM : mk_TKM s b hM) : mj_two ((f_Ta_takeWord (some i) hX).bind fun v24 => (if v24.1 = 0 then (some ((-1), v24.2)) else ((f_Ta_takeNumber (Int32.ofNat lo) (Int32.ofNat hi) v24.2).bind fun v28 => some (v28.1, v28.2)) : Option (Int32 × mm_H))) (f_M_needsBoth (mk_k27 i) (Int32.ofNat lo) (Int32.ofNat hi) hM) (fun a c => (∃ f, ¬ f = 0 ∧ a.1 = -1 ∧ c.1 = 0 ∧ mk_FX f hX a.2 ∧ mk_FM f hM c.2) ∨ (∃ b' x, b < b' ∧ lo ≤ x ∧ x ≤ hi ∧ a.1 = Int32.ofNat x ∧ mk_fx hX a.2 ∧ mk_TKX s b' a.2 ∧ c.1 = 1 ∧ mk_GV (Int32.ofNat x) hM c.2 ∧ mk_TKM s b' c.2)) := by
  have s1 := hs.1
  have bl := TX.1
  unfold f_M_needsBoth
  by_cases w : mk_isw s b i
  · have bs := (mk_kd_1 w.1).1
    have en := mk_en_lt bs
    have nt := mk_ntk_le (s := s) (b := b) bl
    refine mj_two.x (mx_takeWord1 hs TX hi28 w) (fun v24 ⟨x1, x2, x3⟩ => ?_)
    refine mj_two.m (mi_needsWord1 hs TM hi28 w) (fun v2 ⟨y1, y2, y3⟩ => ?_)
    rw [x1, y1, if_neg (show ¬ (1 : Int32) = 0 by decide), if_neg (show ¬ (1 : Int32) = 0 by decide)]
    generalize mk_ntk s b = b1 at *
    by_cases n : mk_nf s b1 lo hi = 0
    · have k2 : mk_kd s b1 = 2 := by
        unfold mk_nf at n
        by_cases k : mk_kd s b1 = 2
        · exact k
        · rw [if_neg k] at n; omega
      have r : lo ≤ mk_nu s b1 ∧ mk_nu s b1 ≤ hi := by
        unfold mk_nf at n
        rw [if_pos k2] at n
        by_cases r : lo ≤ mk_nu s b1 ∧ mk_nu s b1 ≤ hi
        · exact r
        · rw [if_neg r] at n; omega
      have nt2 := mk_ntk_le (s := s) (b := b1) x3.1
      have en2 := (mk_en_le (s := s) (b := b1) x3.1).1
      refine mj_two.x (mx_takeNumber1 hs x3 hl hh n) (fun v28 ⟨z1, z2, z3⟩ => ?_)
      refine mj_two.m (mi_needsNumber1 hs y3 hl hh n) (fun v4 ⟨w1, w2, w3⟩ => ?_)
      rw [w1, if_neg (show ¬ (1 : Int32) = 0 by decide)]
      refine mj_two.ret (Or.inr ⟨mk_ntk s b1, mk_nu s b1, by omega, r.1, r.2, z1, x2.tr z2, z3, rfl, ⟨y2.1.tr w2.1 (fun _ z => z) (fun _ z => z), fun j n1 n2 n3 n4 n5 => (w2.2.1 j n1 n2 n3 n4 n5).trans (y2.2 j n1 n2 n3 n4), w2.2.2⟩, w3⟩)
    · refine mj_two.x (mx_takeNumber0 x3 (x2.2.2.trans h9) hl hh n) (fun v28 ⟨z1, z2⟩ => ?_)
      refine mj_two.m (mi_needsNumber0 y3 hl hh n) (fun v4 ⟨w1, w2⟩ => ?_)
      rw [w1, if_pos (show (0 : Int32) = 0 from rfl)]
      have b1l := x3.1
      refine mj_two.ret (Or.inl ⟨_, ?_, z1, rfl, z2.fx x2, w2.fy y2⟩)
      have : mk_nf s b1 lo hi = 1 ∨ mk_nf s b1 lo hi = 4 := by
        unfold mk_nf at n ⊢
        by_cases k : mk_kd s b1 = 2
        · rw [if_pos k] at n ⊢
          by_cases r : lo ≤ mk_nu s b1 ∧ mk_nu s b1 ≤ hi
          · rw [if_pos r] at n; omega
          · rw [if_neg r]; exact Or.inr rfl
        · rw [if_neg k]; exact Or.inl rfl
      exact mj_fv_nz (by omega) (by omega) (by omega)
  · refine mj_two.x (mx_takeWord0 TX hi28 h9 w) (fun v24 ⟨x1, x2⟩ => ?_)
    refine mj_two.m (mi_needsWord0 TM hi28 w) (fun v2 ⟨y1, y2⟩ => ?_)
    rw [x1, y1, if_pos (show (0 : Int32) = 0 from rfl), if_pos (show (0 : Int32) = 0 from rfl)]
    exact mj_two.ret (Or.inl ⟨_, mj_fv_nz (k := 1) (b := b) (by omega) (by omega) (by omega), rfl, rfl, x2, y2⟩)
/-- a new name, both sides -/
theorem mj_new {A : mk_A} {nP nS : Nat → Nat → Nat} {s : mk_S} {b d : Nat} {hX hM : mm_H} (hs : mk_sgs s) (td : mm_tg d = 7) (B : mj_BT A nP nS) (NX : mj_NAX d (A 263 0) (A 263 1) nP nS hX) (NM : mj_NAM 1 (A 263 0) (A 263 1) nP nS hM) (TX : mk_TKX s b hX) (h9 : hX.1 33 9 = 0) (TM : mk_TKM s b hM) : mj_two (f_Tr_takeNewName d hX) (f_M_isNew hM) (fun a c => (∃ f, ¬ f = 0 ∧ a.1 = 0 ∧ c.1 = 0 ∧ mk_FX f hX a.2 ∧ mk_FM f hM c.2) ∨ (mk_isn s b ∧ a.1 = 1 ∧ mk_NX1 s b hX a.2 ∧ c = (1, hM))) := by
  have s1 := hs.1
  have bl := TX.1
  have hP := B.T.1.1
  have hS1 := B.T.1.2.1
  unfold f_Tr_takeNewName f_M_isNew
  rw [if_pos td]
  by_cases n : mk_isn s b
  · refine mj_two.xs (mx_isName1 TX n) ?_
    refine mj_two.ms ((mi_isKept TM).1 n) ?_
    rw [if_neg (show ¬ (1 : Int32) = 0 by decide), if_pos (show (0 : Int32) = 0 from rfl), TX.2.2.2.2.2.2.1 n.1]
    refine mj_two.xs (mx_findPerson td hP B.oP NX.1 n.1) ?_
    refine mj_two.ms (mi_personNamed (r := 1) (by omega) hP B.oP NM.1 n.1 (TM.2.2.2.2.2.2.1 n.1)) ?_
    simp only [mm_jp]
    have bad : mj_two ((f_Ta_wrong 3 hX).bind fun v9 => (mm_bo v9.1).bind fun b10 => some (b10, v9.2)) ((f_M_fails 3 hM).bind fun v9 => if v9.1 = 0 then (some ((0 : Int32), v9.2)) else (some (1, v9.2))) (fun a c => (∃ f, ¬ f = 0 ∧ a.1 = 0 ∧ c.1 = 0 ∧ mk_FX f hX a.2 ∧ mk_FM f hM c.2) ∨ (mk_isn s b ∧ a.1 = 1 ∧ mk_NX1 s b hX a.2 ∧ c = (1, hM))) := by
      refine mj_two.x (mx_wrong (k := 3) TX h9) (fun v9 ⟨x1, x2⟩ => ?_)
      refine mj_two.m (mi_fails (k := 3) TM) (fun w9 ⟨y1, y2⟩ => ?_)
      rw [x1, y1, if_pos (show (0 : Int32) = 0 from rfl)]
      exact mj_two.xs mk_bo0 (mj_two.ret (Or.inl ⟨_, mj_fv_nz (k := 3) (b := b) (by omega) (by omega) (by omega), rfl, rfl, x2, y2⟩))
    by_cases c : mj_fd nP (A 263 0) s b < A 263 0
    · have fv : mj_fv nP (A 263 0) s b = Int32.ofNat (mj_fd nP (A 263 0) s b) := if_pos c
      rw [fv, if_neg (mn_nn1 (by omega)), if_pos (mj_nn0 (by omega))]
      exact bad
    · have fv : mj_fv nP (A 263 0) s b = -1 := if_neg c
      rw [fv, if_pos (show (-1 : Int32) = -1 from rfl), if_neg (show ¬ (0 : Int32) ≤ -1 by decide)]
      refine mj_two.xs (mx_findSecret td hS1 B.oS NX.2 n.1) ?_
      refine mj_two.ms (mi_secretNamed (r := 1) (by omega) hS1 B.oS NM.2 n.1 (TM.2.2.2.2.2.2.1 n.1)) ?_
      by_cases e : mj_fd nS (A 263 1) s b < A 263 1
      · have fv : mj_fv nS (A 263 1) s b = Int32.ofNat (mj_fd nS (A 263 1) s b) := if_pos e
        rw [fv, if_neg (mn_nn1 (by omega)), if_neg (Int32.not_lt.mpr (mj_nn0 (by omega)))]
        exact bad
      · have fv : mj_fv nS (A 263 1) s b = -1 := if_neg e
        rw [fv, if_pos (show (-1 : Int32) = -1 from rfl), if_pos (show (-1 : Int32) < 0 by decide)]
        refine mj_two.x (mx_ttake hs TX) (fun v15 q => ?_)
        exact mj_two.ret (Or.inr ⟨n, rfl, q, rfl⟩)
  · refine mj_two.xs (mx_isName0 TX n) ?_
    refine mj_two.ms ((mi_isKept TM).2 n) ?_
    rw [if_pos (show (0 : Int32) = 0 from rfl), if_neg (show ¬ (1 : Int32) = 0 by decide)]
    refine mj_two.x (mx_wrong (k := 1) TX h9) (fun v9 ⟨x1, x2⟩ => ?_)
    refine mj_two.m (mi_fails (k := 1) TM) (fun w9 ⟨y1, y2⟩ => ?_)
    rw [x1, y1]
    exact mj_two.xs mk_bo0 (mj_two.ms mk_bo0 (mj_two.ret (Or.inl ⟨_, mj_fv_nz (k := 1) (b := b) (by omega) (by omega) (by omega), rfl, rfl, x2, y2⟩)))
