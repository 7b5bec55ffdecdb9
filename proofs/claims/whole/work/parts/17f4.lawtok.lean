/-! the law of worth read: frames, what both hold, the reference's loop cut up -/
def mv_kx (d n : Nat) (h h' : mm_H) : Prop := mk_cr (fun c => c = 33 ∨ c = d + 14 ∨ c = d + 15) h h' ∧ h'.1 33 1 = h.1 33 1 ∧ ∀ j, j < n → h'.1 (d + 15) j = h.1 (d + 15) j
theorem mv_kx.rf {d n : Nat} {h : mm_H} : mv_kx d n h h := ⟨mk_cr.rf, rfl, fun _ _ => rfl⟩
theorem mv_kx.tr {d n : Nat} {h h1 h2 : mm_H} (a : mv_kx d n h h1) (b : mv_kx d n h1 h2) : mv_kx d n h h2 := ⟨a.1.tr b.1 (fun _ z => z) (fun _ z => z), b.2.1.trans a.2.1, fun j hj => (b.2.2 j hj).trans (a.2.2 j hj)⟩
theorem mv_kx.dn {d n n' : Nat} {h h' : mm_H} (a : mv_kx d n h h') (hn : n' ≤ n) : mv_kx d n' h h' := ⟨a.1, a.2.1, fun j hj => a.2.2 j (by omega)⟩
theorem mk_fx.kx {d n : Nat} {h h' : mm_H} (hd : 33 < d) (k : mk_fx h h') : mv_kx d n h h' := ⟨k.1.mono (fun _ z => Or.inl z), k.2.1, fun j _ => by rw [k.1.e1 (c := d + 15) (by omega)]⟩
theorem mk_FX.kx {d n : Nat} {v : Int32} {h h' : mm_H} (hd : 33 < d) (k : mk_FX v h h') : mv_kx d n h h' := ⟨k.1.mono (fun _ z => Or.inl z), k.2.1, fun j _ => by rw [k.1.e1 (c := d + 15) (by omega)]⟩
def mv_ky (K1 K2 m : Nat) (h h' : mm_H) : Prop := mk_ch (fun c => c = 261 ∨ c = 280 ∨ c = 281 ∨ c = 282) h h' ∧ (∀ j, ¬ j = 4 → ¬ j = 5 → ¬ j = 6 → ¬ j = 8 → ¬ j = 9 → ¬ j = 28 → ¬ j = 41 → h'.1 261 j = h.1 261 j) ∧ (∀ j, j < 1000 + m → h'.1 280 j = h.1 280 j) ∧ (∀ j, j < K1 → h'.1 281 j = h.1 281 j) ∧ ∀ j, j < K2 → h'.1 282 j = h.1 282 j
theorem mv_ky.rf {K1 K2 m : Nat} {h : mm_H} : mv_ky K1 K2 m h h := ⟨mk_ch.rf, fun _ _ _ _ _ _ _ _ => rfl, fun _ _ => rfl, fun _ _ => rfl, fun _ _ => rfl⟩
theorem mv_ky.tr {K1 K2 m : Nat} {h h1 h2 : mm_H} (a : mv_ky K1 K2 m h h1) (b : mv_ky K1 K2 m h1 h2) : mv_ky K1 K2 m h h2 := ⟨a.1.tr b.1 (fun _ z => z) (fun _ z => z), fun j n1 n2 n3 n4 n5 n6 n7 => (b.2.1 j n1 n2 n3 n4 n5 n6 n7).trans (a.2.1 j n1 n2 n3 n4 n5 n6 n7), fun j hj => (b.2.2.1 j hj).trans (a.2.2.1 j hj), fun j hj => (b.2.2.2.1 j hj).trans (a.2.2.2.1 j hj), fun j hj => (b.2.2.2.2 j hj).trans (a.2.2.2.2 j hj)⟩
theorem mv_ky.dn {K1 K2 m K1' K2' m' : Nat} {h h' : mm_H} (a : mv_ky K1 K2 m h h') (h1 : K1' ≤ K1) (h2 : K2' ≤ K2) (h3 : m' ≤ m) : mv_ky K1' K2' m' h h' := ⟨a.1, a.2.1, fun j hj => a.2.2.1 j (by omega), fun j hj => a.2.2.2.1 j (by omega), fun j hj => a.2.2.2.2 j (by omega)⟩
theorem mk_fy.ky {K1 K2 m : Nat} {h h' : mm_H} (k : mk_fy h h') : mv_ky K1 K2 m h h' := ⟨k.1.mono (fun _ z => Or.inl z), fun j n1 n2 n3 n4 _ _ _ => k.2 j n1 n2 n3 n4, fun j _ => by rw [k.1.e1 (c := 280) (by decide)], fun j _ => by rw [k.1.e1 (c := 281) (by decide)], fun j _ => by rw [k.1.e1 (c := 282) (by decide)]⟩
theorem mk_FM.ky {K1 K2 m : Nat} {v : Int32} {h h' : mm_H} (k : mk_FM v h h') : mv_ky K1 K2 m h h' := ⟨k.1.mono (fun _ z => Or.inl z), fun j n1 n2 n3 n4 n5 _ n7 => k.2.1 j n1 n2 n3 n4 n5 n7, fun j _ => by rw [k.1.e1 (c := 280) (by decide)], fun j _ => by rw [k.1.e1 (c := 281) (by decide)], fun j _ => by rw [k.1.e1 (c := 282) (by decide)]⟩
theorem mv_ky.p0 {K1 K2 m j : Nat} {v : Int32} {h : mm_H} (hj : 1000 + m ≤ j) : mv_ky K1 K2 m h (mm_pI h 280 j v) := ⟨mk_ch.pI (Or.inr (Or.inl rfl)), fun i _ _ _ _ _ _ _ => by rw [mp_I1, if_neg (by omega)], fun i hi => by rw [mp_I1, if_neg (by omega)], fun i _ => by rw [mp_I1, if_neg (by omega)], fun i _ => by rw [mp_I1, if_neg (by omega)]⟩
theorem mv_ky.p28 {K1 K2 m : Nat} {v : Int32} {h : mm_H} : mv_ky K1 K2 m h (mm_pI h 261 28 v) := ⟨mk_ch.pI (Or.inl rfl), fun i _ _ _ _ _ _ _ => by rw [mp_I1, if_neg (by omega)], fun i hi => by rw [mp_I1, if_neg (by omega)], fun i _ => by rw [mp_I1, if_neg (by omega)], fun i _ => by rw [mp_I1, if_neg (by omega)]⟩
theorem mv_ky.p1 {K1 K2 m j : Nat} {v : Int32} {h : mm_H} (hj : K1 ≤ j) : mv_ky K1 K2 m h (mm_pI h 281 j v) := ⟨mk_ch.pI (Or.inr (Or.inr (Or.inl rfl))), fun i _ _ _ _ _ _ _ => by rw [mp_I1, if_neg (by omega)], fun i hi => by rw [mp_I1, if_neg (by omega)], fun i _ => by rw [mp_I1, if_neg (by omega)], fun i _ => by rw [mp_I1, if_neg (by omega)]⟩
theorem mv_ky.p2 {K1 K2 m j : Nat} {v : Int32} {h : mm_H} (hj : K2 ≤ j) : mv_ky K1 K2 m h (mm_pI h 282 j v) := ⟨mk_ch.pI (Or.inr (Or.inr (Or.inr rfl))), fun i _ _ _ _ _ _ _ => by rw [mp_I1, if_neg (by omega)], fun i hi => by rw [mp_I1, if_neg (by omega)], fun i _ => by rw [mp_I1, if_neg (by omega)], fun i _ => by rw [mp_I1, if_neg (by omega)]⟩
def mv_Z (s : mk_S) (d b n m : Nat) (hX hM : mm_H) : Prop := mk_TKX s b hX ∧ hX.1 33 9 = 0 ∧ mk_TKM s b hM ∧ hX.1 (d + 14) 2 = Int32.ofNat n ∧ n ≤ b ∧ hM.1 261 28 = Int32.ofNat (1000 + m) ∧ m ≤ b
abbrev mv_M := Int32 × Int32 × mm_H
noncomputable def mv_k10 (j : mv_M) : Option (mv_M ⊕ (Int32 × mm_H)) := (f_M_nextToken j.2.2).bind fun v12 => some (Sum.inl (j.1, j.2.1, v12))
noncomputable def mv_k15 (x : mv_M) : Option (mv_M ⊕ (Int32 × mm_H)) := (f_M_isSign 43 x.2.2).bind fun v17 => (if v17 = 0 then ((f_M_isSign 45 x.2.2).bind fun v21 => if v21 = 0 then (some 22) else (some 21)) else (some 20) : Option Int32).bind fun j18 => (f_M_puts j18 x.2.2).bind fun v29 => mv_k10 (x.1, 1, v29)
noncomputable def mv_k44 (x : mv_M) : Option (mv_M ⊕ (Int32 × mm_H)) := (f_M_isWord (1111 : Int64) x.2.2).bind fun v46 => (if v46 = 0 then (some 27) else (some 26) : Option Int32).bind fun j47 => (f_M_puts j47 x.2.2).bind fun v53 => (mm_ix x.1 7).bind fun k54 => mm_let (mm_pI v53 282 k54 ((0 : Int32) &&& 1)) fun h56 => mv_k10 (x.1, 1, h56)
noncomputable def mv_k68 (x : mv_M) : Option (mv_M ⊕ (Int32 × mm_H)) := (f_M_fails 1 x.2.2).bind fun v70 => (mm_bo v70.1).bind fun b71 => some (Sum.inr (b71, v70.2))
noncomputable def mv_k65 (x : mv_M) : Option (mv_M ⊕ (Int32 × mm_H)) := if x.1 = 0 then ((f_M_isSign 59 x.2.2).bind fun v74 => if v74 = 0 then mv_k68 x else ((f_M_nextToken x.2.2).bind fun v76 => some (Sum.inr (1, v76)))) else mv_k68 x
noncomputable def mv_popw (h : mm_H) (y : Int32) : Option Int32 := mm_while (σ := Int32) (ρ := Int32) (fun s88 => if s88 ≤ 0 then (some (Sum.inr s88)) else ((mm_ix s88 7).bind fun k94 => if (h.1 281 k94) = 1 then (mm_let (s88 + (-1)) fun y96 => some (Sum.inl y96)) else (some (Sum.inr s88)))) y
noncomputable def mv_k39 (x : mv_M) : Option (mv_M ⊕ (Int32 × mm_H)) := (f_M_isWord (1111 : Int64) x.2.2).bind fun v41 => if v41 = 0 then ((f_M_isWord (423 : Int64) x.2.2).bind fun v60 => if v60 = 0 then ((f_M_isSign 41 x.2.2).bind fun v62 => if v62 = 0 then mv_k65 x else (if x.1 ≤ 0 then mv_k65 x else ((f_M_puts 29 x.2.2).bind fun v85 => mm_let (x.1 + (-1)) fun y86 => (mv_popw v85 y86).bind fun v91 => mv_k10 (v91, x.2.1, v85)))) else mv_k44 x) else mv_k44 x
noncomputable def mv_k120 (x : mv_M) : Option (mv_M ⊕ (Int32 × mm_H)) := (mm_ix x.1 7).bind fun k121 => if (x.2.2.1 282 k121) = 0 then ((f_M_isSign 60 x.2.2).bind fun v124 => (if v124 = 0 then (some 25) else (some 24) : Option Int32).bind fun j125 => (f_M_puts j125 x.2.2).bind fun v131 => (mm_ix x.1 7).bind fun k132 => mm_let (mm_pI v131 282 k132 ((1 : Int32) &&& 1)) fun h134 => mv_k10 (x.1, 1, h134)) else mv_k39 x
noncomputable def mv_ops (x : mv_M) : Option (mv_M ⊕ (Int32 × mm_H)) := (f_M_isSign 43 x.2.2).bind fun v7 => if v7 = 0 then ((f_M_isSign 45 x.2.2).bind fun v32 => if v32 = 0 then ((f_M_isSign 42 x.2.2).bind fun v34 => if v34 = 0 then ((f_M_isSign 60 x.2.2).bind fun v36 => if v36 = 0 then ((f_M_isSign 61 x.2.2).bind fun v141 => if v141 = 0 then mv_k39 x else mv_k120 x) else mv_k120 x) else mv_k15 x) else mv_k15 x) else mv_k15 x
noncomputable def mv_k172 (x : mv_M) (v164 : Int32) : Option mv_M := (if v164 = 0 then (some 28) else (some 30) : Option Int32).bind fun j175 => (f_M_puts j175 x.2.2).bind fun v181 => mm_let (x.1 + 1) fun y182 => (if v164 = 0 then (some 2) else (some 1) : Option Int32).bind fun j184 => (mm_ix y182 7).bind fun k189 => mm_let (mm_pI v181 281 k189 j184) fun h191 => (mm_ix y182 7).bind fun k193 => mm_let (mm_pI h191 282 k193 ((0 : Int32) &&& 1)) fun h195 => some (y182, x.2.1, h195)
noncomputable def mv_k169 (x : mv_M) (v162 v164 v166 : Int32) : Option (mv_M ⊕ (Int32 × mm_H)) := if x.1 = 5 then ((f_M_fails 5 x.2.2).bind fun v234 => (mm_bo v234.1).bind fun b235 => some (Sum.inr (b235, v234.2))) else ((if v164 = 0 then (if v166 = 0 then ((if v162 ≤ 0 then (some (100 + (x.2.2.1 261 8))) else (some v162) : Option Int32).bind fun j199 => (f_M_puts j199 x.2.2).bind fun v205 => (mv_popw v205 x.1).bind fun v209 => some (v209, 0, v205)) else mv_k172 x v164) else mv_k172 x v164 : Option mv_M).bind fun j170 => (f_M_nextToken j170.2.2).bind fun v231 => some (Sum.inl (j170.1, j170.2.1, v231)))
noncomputable def mv_pt (x : mv_M) : Option (mv_M ⊕ (Int32 × mm_H)) := (f_M_fact x.2.2).bind fun v162 => (f_M_isWord (10631 : Int64) x.2.2).bind fun v164 => (f_M_isSign 40 x.2.2).bind fun v166 => if v162 = 0 then (if v164 = 0 then (if v166 = 0 then (if (x.2.2.1 261 6) = 2 then mv_k169 x v162 v164 v166 else ((f_M_fails 1 x.2.2).bind fun v241 => (mm_bo v241.1).bind fun b242 => some (Sum.inr (b242, v241.2)))) else mv_k169 x v162 v164 v166) else mv_k169 x v162 v164 v166) else mv_k169 x v162 v164 v166
noncomputable def mv_R (x : mv_M) : Option (mv_M ⊕ (Int32 × mm_H)) := if x.2.1 = 0 then mv_ops x else mv_pt x
theorem mv_reads {h : mm_H} : f_M_reads h = mm_while mv_R (0, 1, mm_pI h 282 0 ((0 : Int32) &&& 1)) := rfl
def mv_po (f : Nat → Int32) : Nat → Nat
  | 0 => 0
  | k + 1 => if f (k + 1) = 1 then mv_po f k else k + 1
theorem mv_po.le {f : Nat → Int32} : ∀ k, mv_po f k ≤ k
  | 0 => Nat.le_refl _
  | k + 1 => by
    show (if f (k + 1) = 1 then mv_po f k else k + 1) ≤ k + 1
    have := mv_po.le (f := f) k
    split <;> omega
theorem mv_po.cg {f f' : Nat → Int32} : ∀ k, (∀ j, j < k + 1 → f' j = f j) → mv_po f' k = mv_po f k
  | 0, _ => rfl
  | k + 1, h => by
    show (if f' (k + 1) = 1 then mv_po f' k else k + 1) = (if f (k + 1) = 1 then mv_po f k else k + 1)
    rw [h (k + 1) (by omega), mv_po.cg k (fun j hj => h j (by omega))]
theorem mv_popw_is {h : mm_H} : ∀ k, k < 7 → mv_popw h (Int32.ofNat k) = some (Int32.ofNat (mv_po (h.1 281) k))
  | 0, _ => mm_while_inr (by rw [if_pos (by decide)]; rfl)
  | k + 1, hk => by
    have pos : ¬ Int32.ofNat (k + 1) ≤ 0 := fun z => absurd ((mn_lel (b := 0) (show k + 1 < 2147483648 by omega) (by decide)).mp z) (show ¬ k + 1 ≤ 0 by omega)
    have q : mv_po (h.1 281) (k + 1) = if h.1 281 (k + 1) = 1 then mv_po (h.1 281) k else k + 1 := rfl
    rw [q]
    by_cases c : h.1 281 (k + 1) = 1
    · rw [if_pos c]
      refine (mm_while_inl ?_).trans (mv_popw_is k (by omega))
      rw [if_neg pos, mk_bs (mv_ix7 hk), if_pos c, mv_m1s]
      rfl
    · rw [if_neg c]
      refine mm_while_inr ?_
      rw [if_neg pos, mk_bs (mv_ix7 hk), if_neg c]
theorem mi_puts {m : Nat} {c : Int32} {h : mm_H} (e : h.1 261 28 = Int32.ofNat (1000 + m)) (hm : m < 1000) : f_M_puts c h = some (mm_pI (mm_pI h 280 (1000 + m) c) 261 28 (Int32.ofNat (1000 + (m + 1)))) := by
  unfold f_M_puts
  rw [e, mk_bs (mn_ix (show 1000 + m < 2000 by omega) (by omega))]
  dsimp only [mm_let]
  rw [mp_I1, if_neg (by omega), e, show Int32.ofNat (1000 + m) + 1 = Int32.ofNat (1000 + (m + 1)) from mn_addl 1 _]
theorem mx_put {d n : Nat} {y : Int32} {h : mm_H} (ht : mm_tg (d + 14) = 2) (e : h.1 (d + 14) 2 = Int32.ofNat n) (hn : n < 1000) : f_La_put (d + 14) y h = some (mm_pI (mm_pI h (d + 15) n y) (d + 14) 2 (Int32.ofNat (n + 1))) := by
  unfold f_La_put
  rw [if_pos ht, e, if_neg (fun z => absurd ((mn_lle (b := 1000) (show n < 2147483648 by omega) (by decide)).mp z) (show ¬ 1000 ≤ n by omega)), mk_bs (mn_ix hn (by omega))]
  show some (mm_pI (mm_pI h (d + 15) n y) (d + 14) 2 ((mm_pI h (d + 15) n y).1 (d + 14) 2 + 1)) = _
  rw [mp_I1, if_neg (by omega), e, show Int32.ofNat n + 1 = Int32.ofNat (n + 1) from mn_addl 1 _]
/-- a code is put, the next token taken -/
def mv_MS (s : mk_S) (b m K1 K2 : Nat) (c : Int32) (h h' : mm_H) : Prop := mk_TKM s (mk_ntk s b) h' ∧ h'.1 261 28 = Int32.ofNat (1000 + (m + 1)) ∧ h'.1 280 (1000 + m) = c ∧ mv_ky K1 K2 m h h'
theorem mv_putk {s : mk_S} {b m : Nat} {c y z : Int32} {h : mm_H} (hs : mk_sgs s) (T : mk_TKM s b h) (e : h.1 261 28 = Int32.ofNat (1000 + m)) (hm : m < 1000) : ∃ h', ((f_M_puts c h).bind fun v => mv_k10 (y, z, v)) = some (Sum.inl (y, z, h')) ∧ mv_MS s b m 7 7 c h h' := by
  rw [mk_bs (mi_puts (c := c) e hm)]
  have T1 : mk_TKM s b (mm_pI (mm_pI h 280 (1000 + m) c) 261 28 (Int32.ofNat (1000 + (m + 1)))) := (T.cell ⟨by omega, by omega⟩).g41 (by omega)
  have k1 : mv_ky 7 7 m h (mm_pI (mm_pI h 280 (1000 + m) c) 261 28 (Int32.ofNat (1000 + (m + 1)))) := (mv_ky.p0 (Nat.le_refl _)).tr mv_ky.p28
  have v1 : (mm_pI (mm_pI h 280 (1000 + m) c) 261 28 (Int32.ofNat (1000 + (m + 1)))).1 261 28 = Int32.ofNat (1000 + (m + 1)) := by rw [mp_I1, if_pos ⟨rfl, rfl⟩]
  have v2 : (mm_pI (mm_pI h 280 (1000 + m) c) 261 28 (Int32.ofNat (1000 + (m + 1)))).1 280 (1000 + m) = c := by rw [mp_I1, if_neg (by omega), mp_I1, if_pos ⟨rfl, rfl⟩]
  revert T1 k1 v1 v2
  generalize mm_pI (mm_pI h 280 (1000 + m) c) 261 28 (Int32.ofNat (1000 + (m + 1))) = h1
  intro T1 k1 v1 v2
  obtain ⟨h2, e2, f2, T2⟩ := mi_ttake hs T1
  refine ⟨h2, ?_, T2, ?_, ?_, k1.tr f2.ky⟩
  · unfold mv_k10
    rw [mk_bs e2]
  · rw [f2.2 28 (by omega) (by omega) (by omega) (by omega)]; exact v1
  · rw [f2.1.e1 (c := 280) (by decide)]; exact v2
/-- the same with the comparison's mark -/
theorem mv_putc {s : mk_S} {b m k : Nat} {c w z : Int32} {h : mm_H} (hs : mk_sgs s) (hk : k < 7) (T : mk_TKM s b h) (e : h.1 261 28 = Int32.ofNat (1000 + m)) (hm : m < 1000) : ∃ h', ((f_M_puts c h).bind fun v => (mm_ix (Int32.ofNat k) 7).bind fun k54 => mm_let (mm_pI v 282 k54 w) fun h56 => mv_k10 (Int32.ofNat k, z, h56)) = some (Sum.inl (Int32.ofNat k, z, h')) ∧ mv_MS s b m 7 k c h h' ∧ h'.1 282 k = w := by
  rw [mk_bs (mi_puts (c := c) e hm), mk_bs (mv_ix7 hk)]
  dsimp only [mm_let]
  have T1 : mk_TKM s b (mm_pI (mm_pI (mm_pI h 280 (1000 + m) c) 261 28 (Int32.ofNat (1000 + (m + 1)))) 282 k w) := ((T.cell ⟨by omega, by omega⟩).g41 (by omega)).cell ⟨by omega, by omega⟩
  have k1 : mv_ky 7 k m h (mm_pI (mm_pI (mm_pI h 280 (1000 + m) c) 261 28 (Int32.ofNat (1000 + (m + 1)))) 282 k w) := ((mv_ky.p0 (Nat.le_refl _)).tr mv_ky.p28).tr (mv_ky.p2 (Nat.le_refl _))
  have v1 : (mm_pI (mm_pI (mm_pI h 280 (1000 + m) c) 261 28 (Int32.ofNat (1000 + (m + 1)))) 282 k w).1 261 28 = Int32.ofNat (1000 + (m + 1)) := by rw [mp_I1, if_neg (by omega), mp_I1, if_pos ⟨rfl, rfl⟩]
  have v2 : (mm_pI (mm_pI (mm_pI h 280 (1000 + m) c) 261 28 (Int32.ofNat (1000 + (m + 1)))) 282 k w).1 280 (1000 + m) = c := by rw [mp_I1, if_neg (by omega), mp_I1, if_neg (by omega), mp_I1, if_pos ⟨rfl, rfl⟩]
  have v3 : (mm_pI (mm_pI (mm_pI h 280 (1000 + m) c) 261 28 (Int32.ofNat (1000 + (m + 1)))) 282 k w).1 282 k = w := by rw [mp_I1, if_pos ⟨rfl, rfl⟩]
  revert T1 k1 v1 v2 v3
  generalize mm_pI (mm_pI (mm_pI h 280 (1000 + m) c) 261 28 (Int32.ofNat (1000 + (m + 1)))) 282 k w = h1
  intro T1 k1 v1 v2 v3
  obtain ⟨h2, e2, f2, T2⟩ := mi_ttake hs T1
  refine ⟨h2, ?_, ⟨T2, ?_, ?_, k1.tr f2.ky⟩, ?_⟩
  · unfold mv_k10
    rw [mk_bs e2]
  · rw [f2.2 28 (by omega) (by omega) (by omega) (by omega)]; exact v1
  · rw [f2.1.e1 (c := 280) (by decide)]; exact v2
  · rw [f2.1.e1 (c := 282) (by decide)]; exact v3
theorem mv_ifs {s : mk_S} {b c : Nat} : (Int32.ofNat (mk_iss s b c).toNat = 0) ↔ mk_iss s b c = false := mn_b0 _
theorem mk_iss_o {s : mk_S} {b c c' : Nat} (h : mk_iss s b c = true) (hc : ¬ c = c') : mk_iss s b c' = false := by
  obtain ⟨h1, h2⟩ := mk_iss_3 h
  unfold mk_iss
  rw [decide_eq_false (p := s.2 b = c') (by omega), Bool.and_false]
theorem mk_iss_k {s : mk_S} {b c : Nat} (h : ¬ mk_kd s b = 3) : mk_iss s b c = false := by
  unfold mk_iss
  rw [decide_eq_false h, Bool.false_and]
section MO
variable {s : mk_S} {b m k : Nat} {h : mm_H}
/-- + - * -/
theorem mv_op15 (hs : mk_sgs s) (T : mk_TKM s b h) (e : h.1 261 28 = Int32.ofNat (1000 + m)) (hm : m < 1000) {c : Nat} {cc x : Int32} (hc : (c = 43 ∧ cc = 20) ∨ (c = 45 ∧ cc = 21) ∨ (c = 42 ∧ cc = 22)) (hi : mk_iss s b c = true) : ∃ h', mm_while mv_R (x, 0, h) = mm_while mv_R (x, 1, h') ∧ mv_MS s b m 7 7 cc h h' := by
  have i43 := mi_isSign (c := 43) hs T (by decide)
  have i45 := mi_isSign (c := 45) hs T (by decide)
  have i42 := mi_isSign (c := 42) hs T (by decide)
  obtain ⟨h', q1, q2⟩ := mv_putk (c := cc) (y := x) (z := 1) hs T e hm
  refine ⟨h', mm_while_inl ?_, q2⟩
  unfold mv_R
  rw [if_pos rfl]
  have k15 : mv_k15 (x, 0, h) = some (Sum.inl (x, 1, h')) := by
    unfold mv_k15
    refine (mk_bs i43).trans ?_
    refine (mk_bs (v := cc) ?_).trans q1
    rcases hc with ⟨rfl, rfl⟩ | ⟨rfl, rfl⟩ | ⟨rfl, rfl⟩
    · rw [hi, if_neg (by decide)]
    · rw [mk_iss_o hi (c' := 43) (by decide), if_pos (by decide)]
      refine (mk_bs i45).trans ?_
      rw [hi, if_neg (by decide)]
    · rw [mk_iss_o hi (c' := 43) (by decide), if_pos (by decide)]
      refine (mk_bs i45).trans ?_
      rw [mk_iss_o hi (c' := 45) (by decide), if_pos (by decide)]
  unfold mv_ops
  refine (mk_bs i43).trans ?_
  rcases hc with ⟨rfl, rfl⟩ | ⟨rfl, rfl⟩ | ⟨rfl, rfl⟩
  · rw [hi, if_neg (by decide)]; exact k15
  · rw [mk_iss_o hi (c' := 43) (by decide), if_pos (by decide)]
    refine (mk_bs i45).trans ?_
    rw [hi, if_neg (by decide)]; exact k15
  · rw [mk_iss_o hi (c' := 43) (by decide), if_pos (by decide)]
    refine (mk_bs i45).trans ?_
    rw [mk_iss_o hi (c' := 45) (by decide), if_pos (by decide)]
    refine (mk_bs i42).trans ?_
    rw [hi, if_neg (by decide)]; exact k15
/-- < = where none was -/
theorem mv_op120 (hs : mk_sgs s) (hk : k < 7) (T : mk_TKM s b h) (e : h.1 261 28 = Int32.ofNat (1000 + m)) (hm : m < 1000) (h0 : h.1 282 k = 0) {c : Nat} {cc : Int32} (hc : (c = 60 ∧ cc = 24) ∨ (c = 61 ∧ cc = 25)) (hi : mk_iss s b c = true) : ∃ h', mm_while mv_R (Int32.ofNat k, 0, h) = mm_while mv_R (Int32.ofNat k, 1, h') ∧ mv_MS s b m 7 k cc h h' ∧ h'.1 282 k = 1 := by
  have i43 := mi_isSign (c := 43) hs T (by decide)
  have i45 := mi_isSign (c := 45) hs T (by decide)
  have i42 := mi_isSign (c := 42) hs T (by decide)
  have i60 := mi_isSign (c := 60) hs T (by decide)
  have i61 := mi_isSign (c := 61) hs T (by decide)
  obtain ⟨h', q1, q2, q3⟩ := mv_putc (c := cc) (w := (1 : Int32) &&& 1) (z := 1) hs hk T e hm
  refine ⟨h', mm_while_inl ?_, q2, q3⟩
  unfold mv_R
  rw [if_pos rfl]
  have k120 : mv_k120 (Int32.ofNat k, 0, h) = some (Sum.inl (Int32.ofNat k, 1, h')) := by
    unfold mv_k120
    refine (mk_bs (mv_ix7 hk)).trans ?_
    dsimp only
    rw [if_pos h0]
    refine (mk_bs i60).trans ?_
    refine (mk_bs (v := cc) ?_).trans q1
    rcases hc with ⟨rfl, rfl⟩ | ⟨rfl, rfl⟩
    · rw [hi, if_neg (by decide)]
    · rw [mk_iss_o hi (c' := 60) (by decide), if_pos (by decide)]
  have n43 : mk_iss s b 43 = false := by rcases hc with ⟨rfl, rfl⟩ | ⟨rfl, rfl⟩ <;> exact mk_iss_o hi (by decide)
  have n45 : mk_iss s b 45 = false := by rcases hc with ⟨rfl, rfl⟩ | ⟨rfl, rfl⟩ <;> exact mk_iss_o hi (by decide)
  have n42 : mk_iss s b 42 = false := by rcases hc with ⟨rfl, rfl⟩ | ⟨rfl, rfl⟩ <;> exact mk_iss_o hi (by decide)
  unfold mv_ops
  refine (mk_bs i43).trans ?_
  rw [n43, if_pos (by decide)]
  refine (mk_bs i45).trans ?_
  rw [n45, if_pos (by decide)]
  refine (mk_bs i42).trans ?_
  rw [n42, if_pos (by decide)]
  refine (mk_bs i60).trans ?_
  rcases hc with ⟨rfl, rfl⟩ | ⟨rfl, rfl⟩
  · rw [hi, if_neg (by decide)]; exact k120
  · rw [mk_iss_o hi (c' := 60) (by decide), if_pos (by decide)]
    refine (mk_bs i61).trans ?_
    rw [hi, if_neg (by decide)]; exact k120
/-- none of + - *, no comparison that may stand: on to and, or, ) ; -/
theorem mv_op39 (hs : mk_sgs s) (hk : k < 7) (T : mk_TKM s b h) (n43 : mk_iss s b 43 = false) (n45 : mk_iss s b 45 = false) (n42 : mk_iss s b 42 = false) (hcmp : (mk_iss s b 60 = false ∧ mk_iss s b 61 = false) ∨ ¬ h.1 282 k = 0) : mv_R (Int32.ofNat k, 0, h) = mv_k39 (Int32.ofNat k, 0, h) := by
  have i43 := mi_isSign (c := 43) hs T (by decide)
  have i45 := mi_isSign (c := 45) hs T (by decide)
  have i42 := mi_isSign (c := 42) hs T (by decide)
  have i60 := mi_isSign (c := 60) hs T (by decide)
  have i61 := mi_isSign (c := 61) hs T (by decide)
  unfold mv_R
  rw [if_pos rfl]
  unfold mv_ops
  refine (mk_bs i43).trans ?_
  rw [n43, if_pos (by decide)]
  refine (mk_bs i45).trans ?_
  rw [n45, if_pos (by decide)]
  refine (mk_bs i42).trans ?_
  rw [n42, if_pos (by decide)]
  refine (mk_bs i60).trans ?_
  have k120 : ¬ h.1 282 k = 0 → mv_k120 (Int32.ofNat k, 0, h) = mv_k39 (Int32.ofNat k, 0, h) := fun z => by
    unfold mv_k120
    refine (mk_bs (mv_ix7 hk)).trans ?_
    dsimp only
    rw [if_neg z]
  cases c : mk_iss s b 60
  · rw [if_pos (by decide)]
    refine (mk_bs i61).trans ?_
    cases c' : mk_iss s b 61
    · rw [if_pos (by decide)]
    · rw [if_neg (by decide)]
      refine k120 (hcmp.resolve_left (fun z => ?_))
      rw [z.2] at c'; exact absurd c' (by decide)
  · rw [if_neg (by decide)]
    refine k120 (hcmp.resolve_left (fun z => ?_))
    rw [z.1] at c; exact absurd c (by decide)
theorem mv_w22 : mk_k27 22 = 1111 ∧ mk_k27 23 = 423 ∧ mk_k27 21 = 10631 := by decide +kernel
/-- and, or -/
theorem mv_op44 (hs : mk_sgs s) (hk : k < 7) (T : mk_TKM s b h) (e : h.1 261 28 = Int32.ofNat (1000 + m)) (hm : m < 1000) (hcmp : (mk_iss s b 60 = false ∧ mk_iss s b 61 = false) ∨ ¬ h.1 282 k = 0) {i : Nat} {cc : Int32} (hc : (i = 22 ∧ cc = 26) ∨ (i = 23 ∧ cc = 27)) (hi : mk_isw s b i) : ∃ h', mm_while mv_R (Int32.ofNat k, 0, h) = mm_while mv_R (Int32.ofNat k, 1, h') ∧ mv_MS s b m 7 k cc h h' ∧ h'.1 282 k = 0 := by
  have n3 : ¬ mk_kd s b = 3 := by rw [hi.1]; omega
  have w22 := mi_isWord (i := 22) T (by omega)
  have w23 := mi_isWord (i := 23) T (by omega)
  rw [mv_w22.1] at w22
  rw [mv_w22.2.1] at w23
  obtain ⟨h', q1, q2, q3⟩ := mv_putc (c := cc) (w := (0 : Int32) &&& 1) (z := 1) hs hk T e hm
  refine ⟨h', mm_while_inl ?_, q2, q3⟩
  rw [mv_op39 hs hk T (mk_iss_k n3) (mk_iss_k n3) (mk_iss_k n3) hcmp]
  rcases hc with ⟨rfl, rfl⟩ | ⟨rfl, rfl⟩
  · unfold mv_k39
    refine (mk_bs (w22.1 hi)).trans ?_
    rw [if_neg (by decide)]
    unfold mv_k44
    refine (mk_bs (w22.1 hi)).trans ?_
    refine (mk_bs (v := 26) ?_).trans q1
    exact if_neg (by decide)
  · have no : ¬ mk_isw s b 22 := fun z => absurd (mk_isw_inj (by omega) (by omega) z hi) (by decide)
    unfold mv_k39
    refine (mk_bs (w22.2 no)).trans ?_
    rw [if_pos rfl]
    refine (mk_bs (w23.1 hi)).trans ?_
    rw [if_neg (by decide)]
    unfold mv_k44
    refine (mk_bs (w22.2 no)).trans ?_
    refine (mk_bs (v := 27) ?_).trans q1
    exact if_pos rfl
/-- what stands behind all of an E -/
def mv_end (s : mk_S) (b k : Nat) (h : mm_H) : Prop := mk_iss s b 43 = false ∧ mk_iss s b 45 = false ∧ mk_iss s b 42 = false ∧ ((mk_iss s b 60 = false ∧ mk_iss s b 61 = false) ∨ ¬ h.1 282 k = 0) ∧ ¬ mk_isw s b 22 ∧ ¬ mk_isw s b 23
theorem mv_op65 (hs : mk_sgs s) (hk : k < 7) (T : mk_TKM s b h) (q : mv_end s b k h) (x : k = 0 ∨ mk_iss s b 41 = false) : mv_R (Int32.ofNat k, 0, h) = mv_k65 (Int32.ofNat k, 0, h) := by
  obtain ⟨q1, q2, q3, q4, q5, q6⟩ := q
  have w22 := mi_isWord (i := 22) T (by omega)
  have w23 := mi_isWord (i := 23) T (by omega)
  rw [mv_w22.1] at w22
  rw [mv_w22.2.1] at w23
  rw [mv_op39 hs hk T q1 q2 q3 q4]
  unfold mv_k39
  refine (mk_bs (w22.2 q5)).trans ?_
  rw [if_pos rfl]
  refine (mk_bs (w23.2 q6)).trans ?_
  rw [if_pos rfl]
  refine (mk_bs (mi_isSign (c := 41) hs T (by decide))).trans ?_
  cases c : mk_iss s b 41
  · rw [if_pos (by decide)]
  · have k0 : k = 0 := x.resolve_right (by rw [c]; decide)
    rw [if_neg (by decide)]
    dsimp only
    rw [if_pos (by rw [k0]; decide)]
/-- ) -/
theorem mv_op41 (hs : mk_sgs s) (hk : k + 1 < 7) (T : mk_TKM s b h) (e : h.1 261 28 = Int32.ofNat (1000 + m)) (hm : m < 1000) (q : mv_end s b (k + 1) h) (hi : mk_iss s b 41 = true) : ∃ h', mm_while mv_R (Int32.ofNat (k + 1), 0, h) = mm_while mv_R (Int32.ofNat (mv_po (h.1 281) k), 0, h') ∧ mv_MS s b m 7 7 29 h h' := by
  obtain ⟨q1, q2, q3, q4, q5, q6⟩ := q
  have w22 := mi_isWord (i := 22) T (by omega)
  have w23 := mi_isWord (i := 23) T (by omega)
  rw [mv_w22.1] at w22
  rw [mv_w22.2.1] at w23
  obtain ⟨h', p1, p2⟩ := mv_putk (c := 29) (y := Int32.ofNat (mv_po (h.1 281) k)) (z := 0) hs T e hm
  refine ⟨h', mm_while_inl ?_, p2⟩
  rw [mv_op39 hs hk T q1 q2 q3 q4]
  unfold mv_k39
  refine (mk_bs (w22.2 q5)).trans ?_
  rw [if_pos rfl]
  refine (mk_bs (w23.2 q6)).trans ?_
  rw [if_pos rfl]
  refine (mk_bs (mi_isSign (c := 41) hs T (by decide))).trans ?_
  have pos : ¬ Int32.ofNat (k + 1) ≤ 0 := fun z => absurd ((mn_lel (b := 0) (show k + 1 < 2147483648 by omega) (by decide)).mp z) (show ¬ k + 1 ≤ 0 by omega)
  rw [hi, if_neg (by decide)]
  dsimp only
  rw [if_neg pos]
  rw [mk_bs (mi_puts (c := 29) e hm)] at p1 ⊢
  dsimp only [mm_let]
  rw [mv_m1s, mk_bs (mv_popw_is k (by omega))]
  have : mv_po ((mm_pI (mm_pI h 280 (1000 + m) 29) 261 28 (Int32.ofNat (1000 + (m + 1)))).1 281) k = mv_po (h.1 281) k := mv_po.cg k (fun j _ => by rw [mp_I1, if_neg (by omega), mp_I1, if_neg (by omega)])
  rw [this]
  exact p1
/-- nothing that may stand -/
theorem mv_op68 (T : mk_TKM s b h) {x : Int32} : ∃ c, mv_k68 (x, 0, h) = some (Sum.inr (0, c)) ∧ mk_FM (mk_fv 1 b) h c := by
  obtain ⟨v, e1, e2, e3⟩ := mi_fails (k := 1) T
  refine ⟨v.2, ?_, e3⟩
  unfold mv_k68
  refine (mk_bs (show f_M_fails 1 h = some v from e1)).trans ?_
  rw [e2]; rfl
theorem mv_fail (hs : mk_sgs s) (hk : k < 7) (T : mk_TKM s b h) (q : mv_end s b k h) (x : k = 0 ∨ mk_iss s b 41 = false) (y : k = 0 → mk_iss s b 59 = false) : ∃ c, mm_while mv_R (Int32.ofNat k, 0, h) = some (0, c) ∧ mk_FM (mk_fv 1 b) h c := by
  obtain ⟨c, c1, c2⟩ := mv_op68 T (x := Int32.ofNat k)
  refine ⟨c, mm_while_inr ?_, c2⟩
  rw [mv_op65 hs hk T q x]
  unfold mv_k65
  dsimp only
  by_cases k0 : k = 0
  · rw [if_pos (by rw [k0]; rfl)]
    refine (mk_bs (mi_isSign (c := 59) hs T (by decide))).trans ?_
    rw [y k0, if_pos (by decide)]; exact c1
  · rw [if_neg (fun z => k0 ((mn_eql (b := 0) (show k < 4294967296 by omega) (by decide)).mp z))]; exact c1
theorem mv_fin (hs : mk_sgs s) (T : mk_TKM s b h) (q : mv_end s b 0 h) (y : mk_iss s b 59 = true) : ∃ c, mm_while mv_R (0, 0, h) = some (1, c) ∧ mk_NM1 s b h c := by
  obtain ⟨h2, e2, f2⟩ := mi_ttake hs T
  refine ⟨h2, mm_while_inr ?_, f2⟩
  refine (mv_op65 (k := 0) hs (by omega) T q (Or.inl rfl)).trans ?_
  unfold mv_k65
  dsimp only
  rw [if_pos (by rfl)]
  refine (mk_bs (mi_isSign (c := 59) hs T (by decide))).trans ?_
  rw [y, if_neg (by decide)]
  refine (mk_bs e2).trans rfl
end MO
