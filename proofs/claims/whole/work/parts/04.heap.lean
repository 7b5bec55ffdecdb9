/-! HEAP RULES: fields, arrays, constants -/
def mm_fld (t k : Nat) : String × String × String × Bool := (mm_cl.getD t (RX0, TX0, 0)).2.1 k
def mm_pI (h : mm_H) (a k : Nat) (v : Int32) : mm_H := (fun b j => if b = a ∧ j = k then v else h.1 b j, h.2.1, h.2.2)
def mm_pL (h : mm_H) (a k : Nat) (v : Int64) : mm_H := (h.1, fun b j => if b = a ∧ j = k then v else h.2.1 b j, h.2.2)
def mm_pR (h : mm_H) (a k : Nat) (v : Option Nat) : mm_H := (h.1, h.2.1, fun b j => if b = a ∧ j = k then v else h.2.2 b j)
theorem mm_val_i {h : mm_H} {a k t : Nat} (ht : mm_tg a = t) (hy : mm_kd (mm_ty t k) = 0) : mm_val h a k = .int (h.1 a k) := by
  unfold mm_val; rw [ht, hy]; rfl
theorem mm_val_l {h : mm_H} {a k t : Nat} (ht : mm_tg a = t) (hy : mm_kd (mm_ty t k) = 1) : mm_val h a k = .long (h.2.1 a k) := by
  unfold mm_val; rw [ht, hy]; rfl
theorem mm_val_r {h : mm_H} {a k t : Nat} (ht : mm_tg a = t) (hy : mm_kd (mm_ty t k) = 2) : mm_val h a k = va_rf (mm_rf h a k) := by
  unfold mm_val; rw [ht, hy]; rfl
theorem mm_kd_lt (t : FieldType) : mm_kd t = 0 ∨ mm_kd t = 1 ∨ mm_kd t = 2 := by cases t <;> simp [mm_kd]
/-- a memory that differs at one slot -/
def mm_off (h h' : mm_H) (a k : Nat) : Prop := ∀ b j, (b ≠ a ∨ j ≠ k) → mm_val h' b j = mm_val h b j
theorem mm_pI_off (h : mm_H) (a k : Nat) (v : Int32) : mm_off h (mm_pI h a k v) a k := by
  intro b j hbj
  have e : ¬ (b = a ∧ j = k) := fun q => hbj.elim (fun z => z q.1) (fun z => z q.2)
  unfold mm_val mm_rf mm_pI
  simp only [e, if_false]
theorem mm_pL_off (h : mm_H) (a k : Nat) (v : Int64) : mm_off h (mm_pL h a k v) a k := by
  intro b j hbj
  have e : ¬ (b = a ∧ j = k) := fun q => hbj.elim (fun z => z q.1) (fun z => z q.2)
  unfold mm_val mm_rf mm_pL
  simp only [e, if_false]
theorem mm_pR_off (h : mm_H) (a k : Nat) (v : Option Nat) : mm_off h (mm_pR h a k v) a k := by
  intro b j hbj
  have e : ¬ (b = a ∧ j = k) := fun q => hbj.elim (fun z => z q.1) (fun z => z q.2)
  unfold mm_val mm_rf mm_pR
  simp only [e, if_false]
theorem mm_C.obj {V : mm_V} {h : mm_H} {a t : Nat} {H : Heap} (hC : mm_C V h a H) (ht : mm_tg a = t) (ht2 : t < 20) : t_OB (V.1 a) (V.2.1 t) (mm_nf t) (V.2.2.1 t) H (fun k => mm_rv V (mm_val h a k)) := by
  subst ht
  unfold mm_C at hC
  rwa [if_pos ht2] at hC
theorem mm_C.arr {V : mm_V} {h : mm_H} {a t : Nat} {H : Heap} (hC : mm_C V h a H) (ht : mm_tg a = t) (ht2 : ¬ t < 20) : H[V.1 a]? = some (arrV (V.2.1 t) (mm_ln a) (fun k => mm_rv V (mm_val h a k))) := by
  subst ht
  unfold mm_C at hC
  rwa [if_neg ht2] at hC
theorem mm_P.upd {V : mm_V} {h h' : mm_H} {H H' : Heap} {a : Nat} (hV : mm_Vok V) (hP : mm_P V h H) (ha : 32 ≤ a) (hsame : ∀ b j, b ≠ a → mm_val h' b j = mm_val h b j) (hq : ∀ q, q ≠ V.1 a → H'[q]? = H[q]?) (hc : mm_C V h' a H') : mm_P V h' H' := by
  intro b hb1 hb2
  by_cases e : b = a
  · subst e; exact hc
  · have hne : V.1 b ≠ V.1 a := fun q => e (hV.inj (Or.inr hb1) (Or.inr ha) q)
    have h0 := hP b hb1 hb2
    have hf : (fun k => mm_rv V (mm_val h' b k)) = fun k => mm_rv V (mm_val h b k) := funext fun k => by rw [hsame b k e]
    unfold mm_C at h0 ⊢
    rw [hf]
    by_cases ht : mm_tg b < 20
    · rw [if_pos ht] at h0 ⊢
      exact h0.kept (hq _ hne)
    · rw [if_neg ht] at h0 ⊢
      rw [hq _ hne]; exact h0
/-- the words of the classes' fields lie in the tables -/
def mm_lays (t : Nat) : Prop := ∀ w ∈ u_ws (mm_cl.getD t (RX0, TX0, 0)).1 (mm_cl.getD t (RX0, TX0, 0)).2.1 (mm_cl.getD t (RX0, TX0, 0)).2.2, w ∈ mm_gw
theorem mm_getD {t : Nat} (ht : t < 10) : mm_cl[t]? = some (mm_cl.getD t (RX0, TX0, 0)) := by
  rw [List.getD_eq_getElem?_getD, List.getElem?_eq_getElem (show t < mm_cl.length from ht)]
  rfl
section HR
variable {V : mm_V} {l : Launch} {Y : mm_Y} {d ck sk : Nat} {p : Program} {e : Env} {R : Room} {s : State} {m : MethodId} {args : Array Value} {below : List Frame} {meth : Method} {c : Code} {H : Heap} {locs : List Loc} {ls : Array Slot} {Q : State → Prop} {pc : Nat} {rest : List Value} {h : mm_H}
theorem mm_getW (F : mm_F V Y d ck sk p R s m args meth c) (hP : mm_P V h H) {a t k i : Nat} (hly : mm_lays t) (ht : mm_tg a = t) (ht2 : t < 10) (hk : k < mm_nf t) (hlk : Cond.fieldLink Y.1.cls i (mm_fld t k).1 (mm_fld t k).2.1 (mm_fld t k).2.2.1 ∈ mm_gw) (hdg : decode Y.2.1 pc = .ok (.getfield i, 3))
    (kk : W p l e R s m args below meth c H locs ck sk Q (F0 m (pc + 3) ls (mm_rv V (mm_val h a k) :: rest))) : W p l e R s m args below meth c H locs ck sk Q (F0 m pc ls (.ref (V.1 a) :: rest)) := by
  obtain ⟨hx, hb, -, -, -, hown, hts, ⟨-, hK, -, -⟩, -⟩ := F
  have hal := mm_tg_lt ht (by omega)
  obtain ⟨cell, q1, q2, q3, q4⟩ := (hP a hal.1 hal.2).obj ht (by omega)
  obtain ⟨hS, hfc, kC, hkC, hkind⟩ := hK.1 t _ (mm_getD ht2)
  obtain ⟨cf, kf, fi, f, hi, hsl⟩ := hS k hk
  refine W.getf hx hb hown (hts _ hlk) hi (u_facts hfc hkC (u_lays hts hly hk) hi).1 q1 (by rw [q3]; exact fun h => by cases h) (v := mm_rv V (mm_val h a k)) ?_ rfl rfl hdg kk
  rw [hsl]; exact q4 k hk
/-- what a class' table says for a store -/
def mm_tok (t : Nat) : Prop := (∀ k, k < mm_nf t → parseFieldDescriptor (mm_fld t k).2.2.1 = some (mm_ty t k)) ∧ ∀ a, a < mm_nf t → ∀ b, b < mm_nf t → a ≠ b → (mm_fld t a).2.1 ≠ (mm_fld t b).2.1
theorem mm_putW (F : mm_F V Y d ck sk p R s m args meth c) (hP : mm_P V h H) (hS0 : va_S (mm_fr V) s.heap H locs) {a t k i : Nat} (hly : mm_lays t) (htk : mm_tok t) (ht : mm_tg a = t) (ht2 : t < 10) (hk : k < mm_nf t) (hfin : (mm_fld t k).2.2.2 = false) (hlk : Cond.fieldLink Y.1.cls i (mm_fld t k).1 (mm_fld t k).2.1 (mm_fld t k).2.2.1 ∈ mm_gw) {v : Value} {h' : mm_H} (ho : mm_off h h' a k) (hv : mm_val h' a k = v) (hn : narrow (mm_ty t k) (mm_rv V v) = mm_rv V v) (hfit : fits (mm_ty t k) (mm_rv V v) = true) (hdg : decode Y.2.1 pc = .ok (.putfield i, 3))
    (kk : ∀ (H' : Heap) (locs' : List Loc), mm_P V h' H' → va_S (mm_fr V) s.heap H' locs' → W p l e R s m args below meth c H' locs' ck sk Q (F0 m (pc + 3) ls rest)) : W p l e R s m args below meth c H locs ck sk Q (F0 m pc ls (mm_rv V v :: .ref (V.1 a) :: rest)) := by
  obtain ⟨hx, hb, -, -, -, hown, hts, ⟨hV, hK, -, -⟩, -⟩ := F
  have hal := mm_tg_lt ht (by omega)
  have hap := va_apart (own := RX0) hts hly (mm_ty t) htk.1 htk.2 hK (mm_getD ht2)
  obtain ⟨cell, q1, q2, q3, q4⟩ := (hP a hal.1 hal.2).obj ht (by omega)
  obtain ⟨hS, hfc, kC, hkC, hkind⟩ := hK.1 t _ (mm_getD ht2)
  obtain ⟨cf, kf, fi, f, hi, hsl⟩ := hS k hk
  have hlay := hts _ (hly _ (u_in_lay hk))
  unfold u_lay at hlay
  rw [if_neg (by show ¬ (mm_fld t k).2.2.2 = true; rw [hfin]; decide)] at hlay
  have hst := (u_facts hfc hkC (u_lays hts hly hk) hi).1
  have h6 := u_store hfc hkC hkind hlay hi (htk.1 k hk) hn hfit
  refine W.putK hx hb (f := f) ⟨hown, hts _ hlk, ⟨_, _, _, hi⟩, hst⟩ (by rw [q2]; exact h6) q1 q3 (by rw [hsl]; exact k2_hasslot (q4 k hk)) rfl rfl hdg fun H' e1 e2 e3 => ?_
  rw [hsl] at e1 ⊢
  refine kk H' _ (hP.upd hV hal.1 (fun b j hb => ho b j (Or.inl hb)) e3 ?_) (hS0.put e2 e3 (hV.fr hal.1))
  unfold mm_C
  rw [if_pos (by rw [ht]; omega), ht]
  refine t_OB.to (V := updV (fun k => mm_rv V (mm_val h a k)) k (mm_rv V v)) ⟨_, e1, q2, q3, t_set q4 hap hk _⟩ (fun j _ => ?_)
  unfold updV
  by_cases hj : j = k
  · subst hj; rw [if_pos rfl, hv]
  · rw [if_neg hj, ho a j (Or.inr hj)]
theorem mm_arr (F : mm_F V Y d ck sk p R s m args meth c) (hP : mm_P V h H) {a t : Nat} (ht : mm_tg a = t) (h1 : 20 ≤ t) (h2 : t < 26) : H[V.1 a]? = some (arrV (V.2.1 t) (mm_ln a) (fun k => mm_rv V (mm_val h a k))) ∧ s.isArrayOf (arrV (V.2.1 t) (mm_ln a) (fun k => mm_rv V (mm_val h a k))) (mm_ty t 0) := by
  obtain ⟨-, -, -, -, -, -, -, ⟨-, hK, -, -⟩, -⟩ := F
  have hal := mm_tg_lt ht h2
  refine ⟨(hP a hal.1 hal.2).arr ht (by omega), ?_⟩
  have : t = 20 ∨ t = 21 ∨ t = 22 ∨ t = 23 ∨ t = 24 ∨ t = 25 := by omega
  rcases this with e | e | e | e | e | e <;> subst e
  · exact (hK.2 0 _ rfl).1 _ _
  · exact (hK.2 1 _ rfl).1 _ _
  · exact (hK.2 2 _ rfl).1 _ _
  · exact (hK.2 3 _ rfl).1 _ _
  · exact (hK.2 4 _ rfl).1 _ _
  · exact (hK.2 5 _ rfl).1 _ _
/-- behind a store into an array -/
theorem mm_astW (hV : mm_Vok V) (hP : mm_P V h H) (hS0 : va_S (mm_fr V) s.heap H locs) {a t k : Nat} (ht : mm_tg a = t) (h1 : 20 ≤ t) (h2 : t < 26) {v : Value} {h' : mm_H} (ho : mm_off h h' a k) (hv : mm_val h' a k = v) {H' : Heap}
    (e1 : H'[V.1 a]? = some ((arrV (V.2.1 t) (mm_ln a) (fun k => mm_rv V (mm_val h a k))).setSlot k (mm_rv V v))) (e2 : H'.size = H.size) (e3 : ∀ q, q ≠ V.1 a → H'[q]? = H[q]?) : mm_P V h' H' ∧ va_S (mm_fr V) s.heap H' (locs ++ [⟨V.1 a, k⟩]) := by
  have hal := mm_tg_lt ht h2
  refine ⟨hP.upd hV hal.1 (fun b j hb => ho b j (Or.inl hb)) e3 ?_, hS0.put e2 e3 (hV.fr hal.1)⟩
  unfold mm_C
  rw [if_neg (by rw [ht]; omega), ht, e1, arrV_store]
  congr 2
  funext j
  unfold updV
  by_cases hj : j = k
  · subst hj; rw [if_pos rfl, hv]
  · rw [if_neg hj, ho a j (Or.inr hj)]
end HR
section HM
variable {V : mm_V} {l : Launch} {Y : mm_Y} {d ck sk : Nat} {Z : List Frame → Array Value → State → State → Prop} {pc n : Nat} {lv lv' : List (Nat × Value)} {st : List Value} {h : mm_H}
theorem MM.getI {i a k : Nat} (t : Nat) (ht : mm_tg a = t) (hly : mm_lays t) (hq : t < 10 ∧ k < mm_nf t ∧ mm_kd (mm_ty t k) = 0) (hlk : Cond.fieldLink Y.1.cls i (mm_fld t k).1 (mm_fld t k).2.1 (mm_fld t k).2.2.1 ∈ mm_gw) (hd : decode Y.2.1 pc = .ok (.getfield i, 3)) (hn : pc + 3 = n) (kk : MM V l Y d ck sk Z n lv (.int (h.1 a k) :: st) h) : MM V l Y d ck sk Z pc lv (.ref a :: st) h := by
  subst hn
  intro p e R s m args below meth c H locs ls F hl hP hS
  refine mm_getW F hP hly ht hq.1 hq.2.1 hlk hd ?_
  rw [mm_val_i ht hq.2.2]
  exact kk p e R s m args below meth c H locs ls F hl hP hS
theorem MM.getL {i a k : Nat} (t : Nat) (ht : mm_tg a = t) (hly : mm_lays t) (hq : t < 10 ∧ k < mm_nf t ∧ mm_kd (mm_ty t k) = 1) (hlk : Cond.fieldLink Y.1.cls i (mm_fld t k).1 (mm_fld t k).2.1 (mm_fld t k).2.2.1 ∈ mm_gw) (hd : decode Y.2.1 pc = .ok (.getfield i, 3)) (hn : pc + 3 = n) (kk : MM V l Y d ck sk Z n lv (.long (h.2.1 a k) :: st) h) : MM V l Y d ck sk Z pc lv (.ref a :: st) h := by
  subst hn
  intro p e R s m args below meth c H locs ls F hl hP hS
  refine mm_getW F hP hly ht hq.1 hq.2.1 hlk hd ?_
  rw [mm_val_l ht hq.2.2]
  exact kk p e R s m args below meth c H locs ls F hl hP hS
theorem MM.getW {i a k : Nat} (t : Nat) (ht : mm_tg a = t) (hly : mm_lays t) (hq : t < 10 ∧ k < mm_nf t ∧ mm_kd (mm_ty t k) = 2) (hlk : Cond.fieldLink Y.1.cls i (mm_fld t k).1 (mm_fld t k).2.1 (mm_fld t k).2.2.1 ∈ mm_gw) (hd : decode Y.2.1 pc = .ok (.getfield i, 3)) (hn : pc + 3 = n) (kk : MM V l Y d ck sk Z n lv (va_rf (mm_rf h a k) :: st) h) : MM V l Y d ck sk Z pc lv (.ref a :: st) h := by
  subst hn
  intro p e R s m args below meth c H locs ls F hl hP hS
  refine mm_getW F hP hly ht hq.1 hq.2.1 hlk hd ?_
  rw [mm_val_r ht hq.2.2]
  exact kk p e R s m args below meth c H locs ls F hl hP hS
theorem MM.getR {i a k r : Nat} (t : Nat) (ht : mm_tg a = t) (er : mm_rf h a k = some r) (hly : mm_lays t) (hq : t < 10 ∧ k < mm_nf t ∧ mm_kd (mm_ty t k) = 2) (hlk : Cond.fieldLink Y.1.cls i (mm_fld t k).1 (mm_fld t k).2.1 (mm_fld t k).2.2.1 ∈ mm_gw) (hd : decode Y.2.1 pc = .ok (.getfield i, 3)) (hn : pc + 3 = n) (kk : MM V l Y d ck sk Z n lv (.ref r :: st) h) : MM V l Y d ck sk Z pc lv (.ref a :: st) h := by
  refine MM.getW t ht hly hq hlk hd hn ?_
  rw [er]
  exact kk
theorem MM.putI {i a k : Nat} {x : Int32} {h' : mm_H} (e : h' = mm_pI h a k x) (t : Nat) (ht : mm_tg a = t) (hly : mm_lays t) (htk : mm_tok t) (hq : t < 10 ∧ k < mm_nf t ∧ mm_ty t k = .int ∧ (mm_fld t k).2.2.2 = false) (hlk : Cond.fieldLink Y.1.cls i (mm_fld t k).1 (mm_fld t k).2.1 (mm_fld t k).2.2.1 ∈ mm_gw) (hd : decode Y.2.1 pc = .ok (.putfield i, 3)) (hn : pc + 3 = n) (kk : MM V l Y d ck sk Z n lv st h') : MM V l Y d ck sk Z pc lv (.int x :: .ref a :: st) h := by
  subst hn
  subst e
  intro p e R s m args below meth c H locs ls F hl hP hS
  refine mm_putW F hP hS hly htk ht hq.1 hq.2.1 hq.2.2.2 hlk (mm_pI_off h a k x) (v := .int x) ?_ ?_ ?_ hd (fun H' locs' hP' hS' => kk p e R s m args below meth c H' locs' ls F hl hP' hS')
  · rw [mm_val_i ht (by rw [hq.2.2.1]; rfl)]; simp [mm_pI]
  · rw [hq.2.2.1]; rfl
  · rw [hq.2.2.1]; rfl
theorem MM.putC {i a k : Nat} {x : Int32} {h' : mm_H} (e : h' = mm_pI h a k x) (t : Nat) (ht : mm_tg a = t) (hly : mm_lays t) (htk : mm_tok t) (hq : t < 10 ∧ k < mm_nf t ∧ mm_ty t k = .char ∧ (mm_fld t k).2.2.2 = false) (hx : narrow .char (.int x) = .int x ∧ fits .char (.int x) = true) (hlk : Cond.fieldLink Y.1.cls i (mm_fld t k).1 (mm_fld t k).2.1 (mm_fld t k).2.2.1 ∈ mm_gw) (hd : decode Y.2.1 pc = .ok (.putfield i, 3)) (hn : pc + 3 = n) (kk : MM V l Y d ck sk Z n lv st h') : MM V l Y d ck sk Z pc lv (.int x :: .ref a :: st) h := by
  subst hn
  subst e
  intro p e R s m args below meth c H locs ls F hl hP hS
  refine mm_putW F hP hS hly htk ht hq.1 hq.2.1 hq.2.2.2 hlk (mm_pI_off h a k x) (v := .int x) ?_ ?_ ?_ hd (fun H' locs' hP' hS' => kk p e R s m args below meth c H' locs' ls F hl hP' hS')
  · rw [mm_val_i ht (by rw [hq.2.2.1]; rfl)]; simp [mm_pI]
  · rw [hq.2.2.1]; exact hx.1
  · rw [hq.2.2.1]; exact hx.2
theorem MM.putL {i a k : Nat} {x : Int64} {h' : mm_H} (e : h' = mm_pL h a k x) (t : Nat) (ht : mm_tg a = t) (hly : mm_lays t) (htk : mm_tok t) (hq : t < 10 ∧ k < mm_nf t ∧ mm_ty t k = .long ∧ (mm_fld t k).2.2.2 = false) (hlk : Cond.fieldLink Y.1.cls i (mm_fld t k).1 (mm_fld t k).2.1 (mm_fld t k).2.2.1 ∈ mm_gw) (hd : decode Y.2.1 pc = .ok (.putfield i, 3)) (hn : pc + 3 = n) (kk : MM V l Y d ck sk Z n lv st h') : MM V l Y d ck sk Z pc lv (.long x :: .ref a :: st) h := by
  subst hn
  subst e
  intro p e R s m args below meth c H locs ls F hl hP hS
  refine mm_putW F hP hS hly htk ht hq.1 hq.2.1 hq.2.2.2 hlk (mm_pL_off h a k x) (v := .long x) ?_ ?_ ?_ hd (fun H' locs' hP' hS' => kk p e R s m args below meth c H' locs' ls F hl hP' hS')
  · rw [mm_val_l ht (by rw [hq.2.2.1]; rfl)]; simp [mm_pL]
  · rw [hq.2.2.1]; rfl
  · rw [hq.2.2.1]; rfl
theorem MM.putW {i a k : Nat} {x : Option Nat} {h' : mm_H} (e : h' = mm_pR h a k x) (t : Nat) (ht : mm_tg a = t) (hly : mm_lays t) (htk : mm_tok t) {ct : String} (hq : t < 10 ∧ k < mm_nf t ∧ mm_ty t k = .object ct ∧ (mm_fld t k).2.2.2 = false ∧ mm_mu t k = true) (hlk : Cond.fieldLink Y.1.cls i (mm_fld t k).1 (mm_fld t k).2.1 (mm_fld t k).2.2.1 ∈ mm_gw) (hd : decode Y.2.1 pc = .ok (.putfield i, 3)) (hn : pc + 3 = n) (kk : MM V l Y d ck sk Z n lv st h') : MM V l Y d ck sk Z pc lv (va_rf x :: .ref a :: st) h := by
  subst hn
  subst e
  intro p e R s m args below meth c H locs ls F hl hP hS
  refine mm_putW F hP hS hly htk ht hq.1 hq.2.1 hq.2.2.2.1 hlk (mm_pR_off h a k x) (v := va_rf x) ?_ ?_ ?_ hd (fun H' locs' hP' hS' => kk p e R s m args below meth c H' locs' ls F hl hP' hS')
  · rw [mm_val_r ht (by rw [hq.2.2.1]; rfl)]; simp [mm_pR, mm_rf, ht, hq.2.2.2.2]
  · rw [hq.2.2.1, mm_rv_rf]; cases x <;> rfl
  · rw [hq.2.2.1, mm_rv_rf]; cases x <;> rfl
theorem MM.putR {i a k x : Nat} {h' : mm_H} (e : h' = mm_pR h a k (some x)) (t : Nat) (ht : mm_tg a = t) (hly : mm_lays t) (htk : mm_tok t) {ct : String} (hq : t < 10 ∧ k < mm_nf t ∧ mm_ty t k = .object ct ∧ (mm_fld t k).2.2.2 = false ∧ mm_mu t k = true) (hlk : Cond.fieldLink Y.1.cls i (mm_fld t k).1 (mm_fld t k).2.1 (mm_fld t k).2.2.1 ∈ mm_gw) (hd : decode Y.2.1 pc = .ok (.putfield i, 3)) (hn : pc + 3 = n) (kk : MM V l Y d ck sk Z n lv st h') : MM V l Y d ck sk Z pc lv (.ref x :: .ref a :: st) h := MM.putW (x := some x) e t ht hly htk hq hlk hd hn kk
theorem mm_in_ln {i : Int32} {cA : ClassId} {N : Nat} {f : Nat → Value} (hin : vp_in i N) : ¬ (i < 0 ∨ (arrV cA N f).slots.size ≤ i.toNatClampNeg) := by rw [arrV_size]; exact hin
theorem mm_in_lt {i : Int32} {N : Nat} (hin : vp_in i N) : i.toNatClampNeg < N := Nat.not_le.mp fun q => hin (Or.inr q)
theorem MM.iald {a : Nat} {i : Int32} (ht : mm_tg a = 20) (hin : vp_in i (mm_ln a)) (hd : decode Y.2.1 pc = .ok (.iaload, 1)) (hn : pc + 1 = n) (kk : MM V l Y d ck sk Z n lv (.int (h.1 a i.toNatClampNeg) :: st) h) : MM V l Y d ck sk Z pc lv (.int i :: .ref a :: st) h := by
  subst hn
  intro p e R s m args below meth c H locs ls F hl hP hS
  obtain ⟨q1, q2⟩ := mm_arr F hP ht (by omega) (by omega)
  exact W.iald (v := .int (h.1 a i.toNatClampNeg)) F.1 F.2.1 q1 q2 (fun q => by cases q) (mm_in_ln hin) (by rw [arrV_read _ _ (mm_in_lt hin), mm_val_i ht rfl]; rfl) rfl rfl hd (kk p e R s m args below meth c H locs ls F hl hP hS)
theorem MM.cald {a : Nat} {i : Int32} (ht : mm_tg a = 22) (hin : vp_in i (mm_ln a)) (hd : decode Y.2.1 pc = .ok (.caload, 1)) (hn : pc + 1 = n) (kk : MM V l Y d ck sk Z n lv (.int (h.1 a i.toNatClampNeg) :: st) h) : MM V l Y d ck sk Z pc lv (.int i :: .ref a :: st) h := by
  subst hn
  intro p e R s m args below meth c H locs ls F hl hP hS
  obtain ⟨q1, q2⟩ := mm_arr F hP ht (by omega) (by omega)
  exact W.cald (v := .int (h.1 a i.toNatClampNeg)) F.1 F.2.1 q1 q2 (fun q => by cases q) (mm_in_ln hin) (by rw [arrV_read _ _ (mm_in_lt hin), mm_val_i ht rfl]; rfl) rfl rfl hd (kk p e R s m args below meth c H locs ls F hl hP hS)
theorem MM.zald {a : Nat} {i : Int32} (ht : mm_tg a = 23) (hin : vp_in i (mm_ln a)) (hd : decode Y.2.1 pc = .ok (.baload, 1)) (hn : pc + 1 = n) (kk : MM V l Y d ck sk Z n lv (.int (h.1 a i.toNatClampNeg) :: st) h) : MM V l Y d ck sk Z pc lv (.int i :: .ref a :: st) h := by
  subst hn
  intro p e R s m args below meth c H locs ls F hl hP hS
  obtain ⟨q1, q2⟩ := mm_arr F hP ht (by omega) (by omega)
  exact W.zald (v := .int (h.1 a i.toNatClampNeg)) F.1 F.2.1 q1 q2 (fun q => by cases q) (mm_in_ln hin) (by rw [arrV_read _ _ (mm_in_lt hin), mm_val_i ht rfl]; rfl) rfl rfl hd (kk p e R s m args below meth c H locs ls F hl hP hS)
theorem MM.lald {a : Nat} {i : Int32} (ht : mm_tg a = 21) (hin : vp_in i (mm_ln a)) (hd : decode Y.2.1 pc = .ok (.laload, 1)) (hn : pc + 1 = n) (kk : MM V l Y d ck sk Z n lv (.long (h.2.1 a i.toNatClampNeg) :: st) h) : MM V l Y d ck sk Z pc lv (.int i :: .ref a :: st) h := by
  subst hn
  intro p e R s m args below meth c H locs ls F hl hP hS
  obtain ⟨q1, q2⟩ := mm_arr F hP ht (by omega) (by omega)
  exact W.lald (v := .long (h.2.1 a i.toNatClampNeg)) F.1 F.2.1 q1 q2 (fun q => by cases q) (mm_in_ln hin) (by rw [arrV_read _ _ (mm_in_lt hin), mm_val_l ht rfl]; rfl) rfl rfl hd (kk p e R s m args below meth c H locs ls F hl hP hS)
theorem MM.aaldS {a r : Nat} {i : Int32} (ht : mm_tg a = 24) (hin : vp_in i (mm_ln a)) (er : mm_rf h a i.toNatClampNeg = some r) (hd : decode Y.2.1 pc = .ok (.aaload, 1)) (hn : pc + 1 = n) (kk : MM V l Y d ck sk Z n lv (.ref r :: st) h) : MM V l Y d ck sk Z pc lv (.int i :: .ref a :: st) h := by
  subst hn
  intro p e R s m args below meth c H locs ls F hl hP hS
  obtain ⟨q1, q2⟩ := mm_arr F hP ht (by omega) (by omega)
  exact W.aald (v := .ref (V.1 r)) F.1 F.2.1 q1 q2 rfl (fun q => by cases q) (mm_in_ln hin) (by rw [arrV_read _ _ (mm_in_lt hin), mm_val_r ht rfl, er]; rfl) rfl rfl hd (kk p e R s m args below meth c H locs ls F hl hP hS)
theorem MM.aaldT {a r : Nat} {i : Int32} (ht : mm_tg a = 25) (hin : vp_in i (mm_ln a)) (er : mm_rf h a i.toNatClampNeg = some r) (hd : decode Y.2.1 pc = .ok (.aaload, 1)) (hn : pc + 1 = n) (kk : MM V l Y d ck sk Z n lv (.ref r :: st) h) : MM V l Y d ck sk Z pc lv (.int i :: .ref a :: st) h := by
  subst hn
  intro p e R s m args below meth c H locs ls F hl hP hS
  obtain ⟨q1, q2⟩ := mm_arr F hP ht (by omega) (by omega)
  exact W.aald (v := .ref (V.1 r)) F.1 F.2.1 q1 q2 rfl (fun q => by cases q) (mm_in_ln hin) (by rw [arrV_read _ _ (mm_in_lt hin), mm_val_r ht rfl, er]; rfl) rfl rfl hd (kk p e R s m args below meth c H locs ls F hl hP hS)
theorem MM.iast {a : Nat} {i : Int32} {x : Int32} {h' : mm_H} (e : h' = mm_pI h a i.toNatClampNeg (x)) (ht : mm_tg a = 20) (hin : vp_in i (mm_ln a)) (hd : decode Y.2.1 pc = .ok (.iastore, 1)) (hn : pc + 1 = n) (kk : MM V l Y d ck sk Z n lv st h') : MM V l Y d ck sk Z pc lv (.int x :: .int i :: .ref a :: st) h := by
  subst hn
  subst e
  intro p e R s m args below meth c H locs ls F hl hP hS
  obtain ⟨q1, q2⟩ := mm_arr F hP ht (by omega) (by omega)
  refine W.iast F.1 F.2.1 q1 q2 (fun q => by cases q) (mm_in_ln hin) rfl rfl hd fun H' e1 e2 e3 => ?_
  obtain ⟨hP', hS'⟩ := mm_astW F.2.2.2.2.2.2.2.1.1 hP hS ht (by omega) (by omega) (mm_pI_off h a i.toNatClampNeg (x)) (v := .int (x)) (by rw [mm_val_i ht rfl]; simp [mm_pI]) e1 e2 e3
  exact kk p e R s m args below meth c H' _ ls F hl hP' hS'
theorem MM.cast {a : Nat} {i : Int32} {x : Int32} {h' : mm_H} (e : h' = mm_pI h a i.toNatClampNeg (vp_nar .char x)) (ht : mm_tg a = 22) (hin : vp_in i (mm_ln a)) (hd : decode Y.2.1 pc = .ok (.castore, 1)) (hn : pc + 1 = n) (kk : MM V l Y d ck sk Z n lv st h') : MM V l Y d ck sk Z pc lv (.int x :: .int i :: .ref a :: st) h := by
  subst hn
  subst e
  intro p e R s m args below meth c H locs ls F hl hP hS
  obtain ⟨q1, q2⟩ := mm_arr F hP ht (by omega) (by omega)
  refine W.cast F.1 F.2.1 q1 q2 (fun q => by cases q) (mm_in_ln hin) rfl rfl hd fun H' e1 e2 e3 => ?_
  obtain ⟨hP', hS'⟩ := mm_astW F.2.2.2.2.2.2.2.1.1 hP hS ht (by omega) (by omega) (mm_pI_off h a i.toNatClampNeg (vp_nar .char x)) (v := .int (vp_nar .char x)) (by rw [mm_val_i ht rfl]; simp [mm_pI]) e1 e2 e3
  exact kk p e R s m args below meth c H' _ ls F hl hP' hS'
theorem MM.zast {a : Nat} {i : Int32} {x : Int32} {h' : mm_H} (e : h' = mm_pI h a i.toNatClampNeg (vp_nar .boolean x)) (ht : mm_tg a = 23) (hin : vp_in i (mm_ln a)) (hd : decode Y.2.1 pc = .ok (.bastore, 1)) (hn : pc + 1 = n) (kk : MM V l Y d ck sk Z n lv st h') : MM V l Y d ck sk Z pc lv (.int x :: .int i :: .ref a :: st) h := by
  subst hn
  subst e
  intro p e R s m args below meth c H locs ls F hl hP hS
  obtain ⟨q1, q2⟩ := mm_arr F hP ht (by omega) (by omega)
  refine W.zast F.1 F.2.1 q1 q2 (fun q => by cases q) (mm_in_ln hin) rfl rfl hd fun H' e1 e2 e3 => ?_
  obtain ⟨hP', hS'⟩ := mm_astW F.2.2.2.2.2.2.2.1.1 hP hS ht (by omega) (by omega) (mm_pI_off h a i.toNatClampNeg (vp_nar .boolean x)) (v := .int (vp_nar .boolean x)) (by rw [mm_val_i ht rfl]; simp [mm_pI]) e1 e2 e3
  exact kk p e R s m args below meth c H' _ ls F hl hP' hS'
theorem MM.last {a : Nat} {i : Int32} {x : Int64} {h' : mm_H} (e : h' = mm_pL h a i.toNatClampNeg (x)) (ht : mm_tg a = 21) (hin : vp_in i (mm_ln a)) (hd : decode Y.2.1 pc = .ok (.lastore, 1)) (hn : pc + 1 = n) (kk : MM V l Y d ck sk Z n lv st h') : MM V l Y d ck sk Z pc lv (.long x :: .int i :: .ref a :: st) h := by
  subst hn
  subst e
  intro p e R s m args below meth c H locs ls F hl hP hS
  obtain ⟨q1, q2⟩ := mm_arr F hP ht (by omega) (by omega)
  refine W.last F.1 F.2.1 q1 q2 (fun q => by cases q) (mm_in_ln hin) rfl rfl hd fun H' e1 e2 e3 => ?_
  obtain ⟨hP', hS'⟩ := mm_astW F.2.2.2.2.2.2.2.1.1 hP hS ht (by omega) (by omega) (mm_pL_off h a i.toNatClampNeg (x)) (v := .long (x)) (by rw [mm_val_l ht rfl]; simp [mm_pL]) e1 e2 e3
  exact kk p e R s m args below meth c H' _ ls F hl hP' hS'
theorem MM.alen {a : Nat} {t : Nat} (ht : mm_tg a = t) (h1 : 20 ≤ t) (h2 : t < 26) (hd : decode Y.2.1 pc = .ok (.arraylength, 1)) (hn : pc + 1 = n) (kk : MM V l Y d ck sk Z n lv (.int (Int32.ofNat (mm_ln a)) :: st) h) : MM V l Y d ck sk Z pc lv (.ref a :: st) h := by
  subst hn
  intro p e R s m args below meth c H locs ls F hl hP hS
  obtain ⟨q1, q2⟩ := mm_arr F hP ht h1 h2
  exact W.alen (n := Int32.ofNat (mm_ln a)) F.1 F.2.1 q1 q2 (by rw [arrV_size]) rfl rfl hd (kk p e R s m args below meth c H locs ls F hl hP hS)
/-- a word of the language -/
theorem MM.word {i j : Nat} {nm : String} (hj : j < 28) (hnm : mm_wn j = nm) (hlk : Cond.fieldLink Y.1.cls i "PaidSecrets$Word" nm "LPaidSecrets$Word;" ∈ mm_gw) (hd : decode Y.2.1 pc = .ok (.getstatic i, 3)) (hn : pc + 3 = n) (kk : MM V l Y d ck sk Z n lv (va_rf (some j) :: st) h) : MM V l Y d ck sk Z pc lv st h := by
  subst hn; subst hnm
  intro p e R s m args below meth c H locs ls F hl hP hS
  exact va_gets F.1 F.2.1 (F.2.2.2.2.2.2.2.1.2.2.2.1 j hj) hS F.2.2.2.2.2.1 (F.2.2.2.2.2.2.1 _ hlk) (fun _ z => z) hd (kk p e R s m args below meth c H locs ls F hl hP hS)
/-- the array of words, by a nest mate -/
theorem MM.words {i : Nat} {host : String} (hlk : Cond.fieldLinkNest Y.1.cls i "PaidSecrets" "WORDS" "[LPaidSecrets$Word;" host ∈ mm_nw) (hd : decode Y.2.1 pc = .ok (.getstatic i, 3)) (hn : pc + 3 = n) (kk : MM V l Y d ck sk Z n lv (.ref 28 :: st) h) : MM V l Y d ck sk Z pc lv st h := by
  subst hn
  intro p e R s m args below meth c H locs ls F hl hP hS
  exact va_getsN F.1 F.2.1 F.2.2.2.2.2.2.2.1.2.2.2.2.1 hS F.2.2.2.2.2.1 (va_Nw.use rfl (F.2.2.2.2.2.2.2.1.2.2.1 _ hlk)) (fun _ z => z) hd (kk p e R s m args below meth c H locs ls F hl hP hS)
theorem MM.wlen (hd : decode Y.2.1 pc = .ok (.arraylength, 1)) (hn : pc + 1 = n) (kk : MM V l Y d ck sk Z n lv (.int 28 :: st) h) : MM V l Y d ck sk Z pc lv (.ref 28 :: st) h := by
  subst hn
  intro p e R s m args below meth c H locs ls F hl hP hS
  exact va_tlen F.1 F.2.1 F.2.2.2.2.2.2.2.1.2.2.2.2.2.2.1 hS (by decide) hd (kk p e R s m args below meth c H locs ls F hl hP hS)
theorem MM.wald {i : Int32} (hin : vp_in i 28) (hd : decode Y.2.1 pc = .ok (.aaload, 1)) (hn : pc + 1 = n) (kk : MM V l Y d ck sk Z n lv (va_rf (some i.toNatClampNeg) :: st) h) : MM V l Y d ck sk Z pc lv (.int i :: .ref 28 :: st) h := by
  subst hn
  intro p e R s m args below meth c H locs ls F hl hP hS
  obtain ⟨cell, g1, g2, g3, g4, g5, g6, -⟩ := F.2.2.2.2.2.2.2.1.2.2.2.2.2.2.1.kept hS.2.1
  have hlt := mm_in_lt hin
  refine W.aald (v := .ref (V.1 i.toNatClampNeg)) F.1 F.2.1 g1 g2 rfl g3 (fun q => ?_) (g6 _ hlt) rfl rfl hd (kk p e R s m args below meth c H locs ls F hl hP hS)
  exact hin (q.elim Or.inl (fun z => Or.inr (Nat.le_trans g4 z)))
theorem MM.wcode {i j : Nat} (hj : j < 28) (hlk : Cond.fieldLink Y.1.cls i "PaidSecrets$Word" "code" "J" ∈ mm_gw) (hd : decode Y.2.1 pc = .ok (.getfield i, 3)) (hn : pc + 3 = n) (kk : MM V l Y d ck sk Z n lv (.long (mm_wc j) :: st) h) : MM V l Y d ck sk Z pc lv (va_rf (some j) :: st) h := by
  subst hn
  intro p e R s m args below meth c H locs ls F hl hP hS
  exact vk_getf F.1 F.2.1 (F.2.2.2.2.2.2.2.1.2.2.2.2.2.1 j hj).1 hS F.2.2.2.2.2.1 (F.2.2.2.2.2.2.1 _ hlk) (fun _ z => z) hd (kk p e R s m args below meth c H locs ls F hl hP hS)
theorem MM.wfact {i : Nat} {w : Option Nat} (j : Nat) (ew : w = some j) (hj : j < 28) (hlk : Cond.fieldLink Y.1.cls i "PaidSecrets$Word" "fact" "I" ∈ mm_gw) (hd : decode Y.2.1 pc = .ok (.getfield i, 3)) (hn : pc + 3 = n) (kk : MM V l Y d ck sk Z n lv (.int (mm_wf j) :: st) h) : MM V l Y d ck sk Z pc lv (va_rf w :: st) h := by
  subst hn; subst ew
  intro p e R s m args below meth c H locs ls F hl hP hS
  exact vk_getf F.1 F.2.1 (F.2.2.2.2.2.2.2.1.2.2.2.2.2.1 j hj).2 hS F.2.2.2.2.2.1 (F.2.2.2.2.2.2.1 _ hlk) (fun _ z => z) hd (kk p e R s m args below meth c H locs ls F hl hP hS)
/-! a method's end -/
section RT
variable {Q : Option Value → mm_H → Prop}
theorem MM.iret {x : Int32} (hr : Y.2.2.2 = some .int) (hd : decode Y.2.1 pc = .ok (.ireturn, 1)) (hQ : Q (some (.int x)) h) : MM V l Y d 0 0 (mm_Z V Q) pc lv [.int x] h := by
  intro p e R s m args below meth c H locs ls F hl hP hS
  exact W.iret F.1 F.2.1 (F.2.2.1.trans hr) (fun t ht hW => ⟨⟨some (.int x), h, rfl, hQ, by rw [ht]; exact hP⟩, hS.F ht⟩) hS.2.2 hd F.2.2.2.1
theorem MM.zret {x : Int32} (hx : x = 0 ∨ x = 1) (hr : Y.2.2.2 = some .boolean) (hd : decode Y.2.1 pc = .ok (.ireturn, 1)) (hQ : Q (some (.int x)) h) : MM V l Y d 0 0 (mm_Z V Q) pc lv [.int x] h := by
  intro p e R s m args below meth c H locs ls F hl hP hS
  exact W.zret F.1 F.2.1 (F.2.2.1.trans hr) (by rcases hx with rfl | rfl <;> rfl) (fun t ht hW => ⟨⟨some (.int x), h, rfl, hQ, by rw [ht]; exact hP⟩, hS.F ht⟩) hS.2.2 hd F.2.2.2.1
theorem MM.lret {x : Int64} (hr : Y.2.2.2 = some .long) (hd : decode Y.2.1 pc = .ok (.lreturn, 1)) (hQ : Q (some (.long x)) h) : MM V l Y d 0 0 (mm_Z V Q) pc lv [.long x] h := by
  intro p e R s m args below meth c H locs ls F hl hP hS
  exact W.lret F.1 F.2.1 (F.2.2.1.trans hr) (fun t ht hW => ⟨⟨some (.long x), h, rfl, hQ, by rw [ht]; exact hP⟩, hS.F ht⟩) hS.2.2 hd F.2.2.2.1
theorem MM.vret (hr : Y.2.2.2 = none) (hd : decode Y.2.1 pc = .ok (.return_, 1)) (hQ : Q none h) : MM V l Y d 0 0 (mm_Z V Q) pc lv [] h := by
  intro p e R s m args below meth c H locs ls F hl hP hS
  exact W.vret F.1 F.2.1 (F.2.2.1.trans hr) (fun t ht hW => ⟨⟨none, h, rfl, hQ, by rw [ht]; exact hP⟩, hS.F ht⟩) hS.2.2 hd F.2.2.2.1
theorem MM.aret {a : Nat} {rt : FieldType} (hrt : (∃ n, rt = .object n) ∨ ∃ t, rt = .array t) (hr : Y.2.2.2 = some rt) (hd : decode Y.2.1 pc = .ok (.areturn, 1)) (hQ : Q (some (.ref a)) h) : MM V l Y d 0 0 (mm_Z V Q) pc lv [.ref a] h := by
  intro p e R s m args below meth c H locs ls F hl hP hS
  exact W.aret (v := .ref (V.1 a)) F.1 F.2.1 (F.2.2.1.trans hr) hrt (Or.inr ⟨_, rfl⟩) (fun t ht hW => ⟨⟨some (.ref a), h, rfl, hQ, by rw [ht]; exact hP⟩, hS.F ht⟩) hS.2.2 hd F.2.2.2.1
end RT
end HM
