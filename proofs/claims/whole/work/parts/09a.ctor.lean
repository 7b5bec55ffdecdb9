/-! CONSTRUCTORS: the memory as it grows: cells 32 to n, values by cell and slot -/
def mc_h0 : mm_H := (fun a k => if a = 33 ∧ k = 4 then 1 else if a = 33 ∧ k = 8 then 32 else 0, fun _ _ => 0, fun a k => if a = 32 ∧ k = 14 then some 79 else if a = 32 ∧ k = 15 then some 96 else none)
def mc_sl (a : Nat) : Nat := if mm_tg a < 20 then mm_nf (mm_tg a) else mm_ln a
def mc_C (V : mm_V) (w : Nat → Nat → Value) (a : Nat) (H : Heap) : Prop :=
  if mm_tg a < 20 then t_OB (V.1 a) (V.2.1 (mm_tg a)) (mm_nf (mm_tg a)) (V.2.2.1 (mm_tg a)) H (fun k => mm_rv V (w a k))
  else H[V.1 a]? = some (arrV (V.2.1 (mm_tg a)) (mm_ln a) (fun k => mm_rv V (w a k)))
def mc_P (V : mm_V) (w : Nat → Nat → Value) (n : Nat) (H : Heap) : Prop := 32 ≤ n ∧ H.size = V.1 32 + (n - 32) ∧ ∀ a, 32 ≤ a → a < n → mc_C V w a H
theorem arrV_congr {cA : ClassId} {N : Nat} {f g : Nat → Value} (h : ∀ j, j < N → f j = g j) : arrV cA N f = arrV cA N g := by
  unfold arrV
  congr 1
  apply Array.ext
  · simp
  · intro i h1 h2
    simp at h1 h2 ⊢
    exact h i h1
theorem mc_C.to {V : mm_V} {w w' : Nat → Nat → Value} {a : Nat} {H : Heap} (h : mc_C V w a H) (e : ∀ k, k < mc_sl a → w' a k = w a k) : mc_C V w' a H := by
  unfold mc_C at h ⊢
  unfold mc_sl at e
  by_cases ht : mm_tg a < 20
  · rw [if_pos ht] at h e ⊢
    exact h.to (fun k hk => by rw [e k hk])
  · rw [if_neg ht] at h e ⊢
    rw [h]
    exact congrArg some (arrV_congr (fun j hj => by rw [e j hj]))
theorem mc_P.to {V : mm_V} {w w' : Nat → Nat → Value} {n : Nat} {H : Heap} (h : mc_P V w n H) (e : ∀ a, 32 ≤ a → a < n → ∀ k, k < mc_sl a → w' a k = w a k) : mc_P V w' n H :=
  ⟨h.1, h.2.1, fun a h1 h2 => (h.2.2 a h1 h2).to (e a h1 h2)⟩
theorem mc_P.mm {V : mm_V} {h : mm_H} {H : Heap} (hP : mc_P V (mm_val h) mm_n0 H) : mm_P V h H := fun a h1 h2 => hP.2.2 a h1 h2
def mc_set (w : Nat → Nat → Value) (a k : Nat) (v : Value) : Nat → Nat → Value := fun b j => if b = a ∧ j = k then v else w b j
def mc_df (w : Nat → Nat → Value) (a : Nat) : Nat → Nat → Value := fun b j => if b = a then defaultValue (mm_ty (mm_tg a) j) else w b j
def mc_to (w : Nat → Nat → Value) (a : Nat) : Nat → Nat → Value := fun b j => if a ≤ b then mm_val mc_h0 b j else w b j
theorem mc_C.kept {V : mm_V} {w : Nat → Nat → Value} {a : Nat} {H H1 : Heap} (h : mc_C V w a H) (e : H1[V.1 a]? = H[V.1 a]?) : mc_C V w a H1 := by
  unfold mc_C at h ⊢
  by_cases ht : mm_tg a < 20
  · rw [if_pos ht] at h ⊢; exact h.kept e
  · rw [if_neg ht] at h ⊢; rw [e]; exact h
/-- one cell more -/
theorem mc_P.push {V : mm_V} {w : Nat → Nat → Value} {n : Nat} {H H1 : Heap} (hV : mm_Vok V) (h : mc_P V w n H) (hs : H1.size = H.size + 1) (hk : ∀ q, q < H.size → H1[q]? = H[q]?) (hc : mc_C V w n H1) : mc_P V w (n + 1) H1 := by
  obtain ⟨h1, h2, h3⟩ := h
  refine ⟨by omega, by omega, fun a ha1 ha2 => ?_⟩
  by_cases e : a = n
  · subst e; exact hc
  · refine (h3 a ha1 (by omega)).kept (hk _ ?_)
    have := hV.1 a ha1
    omega
/-- another value in one slot -/
theorem mc_P.upd {V : mm_V} {w w' : Nat → Nat → Value} {n a : Nat} {H H1 : Heap} (hV : mm_Vok V) (h : mc_P V w n H) (ha : 32 ≤ a) (hs : H1.size = H.size) (hk : ∀ q, q ≠ V.1 a → H1[q]? = H[q]?) (he : ∀ b j, b ≠ a → w' b j = w b j) (hc : mc_C V w' a H1) : mc_P V w' n H1 := by
  obtain ⟨h1, h2, h3⟩ := h
  refine ⟨h1, by omega, fun b hb1 hb2 => ?_⟩
  by_cases e : b = a
  · subst e; exact hc
  · exact ((h3 b hb1 hb2).kept (hk _ (fun q => e (hV.inj (Or.inr hb1) (Or.inr ha) q)))).to (fun k _ => he b k e)
def MC (V : mm_V) (l : Launch) (Y : mm_Y) (d C S : Nat) (Z : List Frame → Array Value → State → State → Prop) (pc : Nat) (lv : List (Nat × Value)) (st : List Value) (w : Nat → Nat → Value) (n ck sk : Nat) : Prop :=
  ∀ (p : Program) (e : Env) (R : Room) (s : State) (m : MethodId) (args : Array Value) (below : List Frame) (meth : Method) (c : Code) (H : Heap) (locs : List Loc) (ls : Array Slot),
    mm_F V Y d 0 0 p R s m args meth c → (va_AO "PaidSecrets$State" s ∧ va_AO "PaidSecrets$Talk" s) ∧ (Y.1.name = "<init>" → meth.name = "<init>") ∧ C ≤ R.cells ∧ S ≤ R.slots → lv_has ls Y.2.2.1 (lv.map (mm_lp V)) → mc_P V w n H → va_S (mm_fr V) s.heap H locs →
    W p l e R s m args below meth c H locs ck sk (Z below args s) (F0 m pc ls (st.map (mm_rv V)))
section MCR
variable {V : mm_V} {l : Launch} {Y : mm_Y} {d C S ck sk : Nat} {Z : List Frame → Array Value → State → State → Prop} {pc n : Nat} {lv lv' : List (Nat × Value)} {st : List Value} {w w' : Nat → Nat → Value} {nn : Nat}
theorem MC.to (e : ∀ a, 32 ≤ a → a < nn → ∀ k, k < mc_sl a → w' a k = w a k) (k : MC V l Y d C S Z pc lv st w' nn ck sk) : MC V l Y d C S Z pc lv st w nn ck sk := by
  intro p e9 R s m args below meth c H locs ls F G hl hP hS
  exact k p e9 R s m args below meth c H locs ls F G hl (hP.to e) hS
theorem MC.iconst {i : Int} {v : Int32} (hv : Int32.ofInt i = v) (hd : decode Y.2.1 pc = .ok (.iconst i, 1)) (hn : pc + 1 = n) (k : MC V l Y d C S Z n lv (.int v :: st) w nn ck sk) : MC V l Y d C S Z pc lv st w nn ck sk := by
  subst hn
  intro p e R s m args below meth c H locs ls F G hl hP hS
  exact lv_iconst F.1 F.2.1 hd hv (k p e R s m args below meth c H locs ls F G hl hP hS)
theorem MC.bipush {i : Int} {v : Int32} (hv : (Int8.ofInt i).toInt32 = v) (hd : decode Y.2.1 pc = .ok (.bipush i, 2)) (hn : pc + 2 = n) (k : MC V l Y d C S Z n lv (.int v :: st) w nn ck sk) : MC V l Y d C S Z pc lv st w nn ck sk := by
  subst hn
  intro p e R s m args below meth c H locs ls F G hl hP hS
  exact lv_bipush F.1 F.2.1 hd hv (k p e R s m args below meth c H locs ls F G hl hP hS)
theorem MC.sipush {i : Int} {v : Int32} (hv : (Int16.ofInt i).toInt32 = v) (hd : decode Y.2.1 pc = .ok (.sipush i, 3)) (hn : pc + 3 = n) (k : MC V l Y d C S Z n lv (.int v :: st) w nn ck sk) : MC V l Y d C S Z pc lv st w nn ck sk := by
  subst hn
  intro p e R s m args below meth c H locs ls F G hl hP hS
  exact lv_sipush F.1 F.2.1 hd hv (k p e R s m args below meth c H locs ls F G hl hP hS)
theorem MC.ldc {i : Nat} {v : Int32} (hc : Cond.constant Y.1.cls i v ∈ mm_gw) (hd : decode Y.2.1 pc = .ok (.ldc i, 2)) (hn : pc + 2 = n) (k : MC V l Y d C S Z n lv (.int v :: st) w nn ck sk) : MC V l Y d C S Z pc lv st w nn ck sk := by
  subst hn
  intro p e R s m args below meth c H locs ls F G hl hP hS
  exact lv_ldc F.1 F.2.1 F.2.2.2.2.2.1 (F.2.2.2.2.2.2.1 _ hc) hd (k p e R s m args below meth c H locs ls F G hl hP hS)
theorem MC.lconst {i : Fin 2} {v : Int64} (hv : Int64.ofNat (i : Nat) = v) (hd : decode Y.2.1 pc = .ok (.lconst i, 1)) (hn : pc + 1 = n) (k : MC V l Y d C S Z n lv (.long v :: st) w nn ck sk) : MC V l Y d C S Z pc lv st w nn ck sk := by
  subst hn
  intro p e R s m args below meth c H locs ls F G hl hP hS
  exact lv_lconst F.1 F.2.1 hd hv (k p e R s m args below meth c H locs ls F G hl hP hS)
theorem MC.anull (hd : decode Y.2.1 pc = .ok (.aconst_null, 1)) (hn : pc + 1 = n) (k : MC V l Y d C S Z n lv (.null :: st) w nn ck sk) : MC V l Y d C S Z pc lv st w nn ck sk := by
  subst hn
  intro p e R s m args below meth c H locs ls F G hl hP hS
  exact lv_null F.1 F.2.1 hd (k p e R s m args below meth c H locs ls F G hl hP hS)
theorem MC.aload_n {j : Fin 4} {i : Nat} {x : Nat} (hi : (j : Nat) = i) (hg : mm_lg lv i = some (.ref x)) (hd : decode Y.2.1 pc = .ok (.aload_n j, 1)) (hn : pc + 1 = n) (k : MC V l Y d C S Z n lv (.ref x :: st) w nn ck sk) : MC V l Y d C S Z pc lv st w nn ck sk := by
  subst hn
  intro p e R s m args below meth c H locs ls F G hl hP hS
  exact lv_aload_n F.1 F.2.1 hd hi (mm_lgE hl hg) (k p e R s m args below meth c H locs ls F G hl hP hS)
theorem MC.iload_n {j : Fin 4} {i : Nat} {x : Int32} (hi : (j : Nat) = i) (hg : mm_lg lv i = some (.int x)) (hd : decode Y.2.1 pc = .ok (.iload_n j, 1)) (hn : pc + 1 = n) (k : MC V l Y d C S Z n lv (.int x :: st) w nn ck sk) : MC V l Y d C S Z pc lv st w nn ck sk := by
  subst hn
  intro p e R s m args below meth c H locs ls F G hl hP hS
  exact lv_iload_n F.1 F.2.1 hd hi (mm_lgE hl hg) (k p e R s m args below meth c H locs ls F G hl hP hS)
theorem MC.istore_n {j : Fin 4} {i : Nat} {x : Int32} (hi : (j : Nat) = i) (hb : i < Y.2.2.1) (hs : mm_st1 lv i (.int x) = lv') (hd : decode Y.2.1 pc = .ok (.istore_n j, 1)) (hn : pc + 1 = n) (k : MC V l Y d C S Z n lv' st w nn ck sk) : MC V l Y d C S Z pc lv (.int x :: st) w nn ck sk := by
  subst hn
  intro p e R s m args below meth c H locs ls F G hl hP hS
  exact lv_istore_n F.1 F.2.1 hd hi hl hb (mm_st1_map hs) (fun ls' hl' => k p e R s m args below meth c H locs ls' F G hl' hP hS)
theorem MC.iinc {i k0 : Nat} {a : Int} {x y : Int32} (e : y = x + Int32.ofInt a) (hk : lv[k0]? = some (i, .int x)) (hb : i < Y.2.2.1) (hs : mm_st1 lv i (.int y) = lv') (hd : decode Y.2.1 pc = .ok (.iinc i a, 3)) (hn : pc + 3 = n) (k : MC V l Y d C S Z n lv' st w nn ck sk) : MC V l Y d C S Z pc lv st w nn ck sk := by
  subst hn
  intro p e9 R s m args below meth c H locs ls F G hl hP hS
  exact lv_iinc F.1 F.2.1 hd hl (k := k0) (by rw [List.getElem?_map, hk]; rfl) e.symm hb (mm_st1_map hs) (fun ls' hl' => k p e9 R s m args below meth c H locs ls' F G hl' hP hS)
theorem MC.dup {v : Value} (hc : v.category = 1) (hd : decode Y.2.1 pc = .ok (.dup, 1)) (hn : pc + 1 = n) (k : MC V l Y d C S Z n lv (v :: v :: st) w nn ck sk) : MC V l Y d C S Z pc lv (v :: st) w nn ck sk := by
  subst hn
  intro p e R s m args below meth c H locs ls F G hl hP hS
  exact lv_dup F.1 F.2.1 hd ((mm_rv_cat V v).trans hc) (k p e R s m args below meth c H locs ls F G hl hP hS)
theorem MC.icmp_ge {x y : Int32} {off : Int} {tgt : Nat} (hd : decode Y.2.1 pc = .ok (.if_icmp .ge off, 3)) (ht : (pc : Int) + off = (tgt : Int)) (hn : pc + 3 = n) (kt : y ≤ x → MC V l Y d C S Z tgt lv st w nn ck sk) (kf : ¬ y ≤ x → MC V l Y d C S Z n lv st w nn ck sk) : MC V l Y d C S Z pc lv (.int y :: .int x :: st) w nn ck sk := by
  subst hn
  intro p e R s m args below meth c H locs ls F G hl hP hS
  exact lv_icmp_ge F.1 F.2.1 hd ht (fun c9 => kt c9 p e R s m args below meth c H locs ls F G hl hP hS) (fun c9 => kf c9 p e R s m args below meth c H locs ls F G hl hP hS)
theorem MC.goto {off : Int} {tgt : Nat} (hd : decode Y.2.1 pc = .ok (.goto off, 3)) (ht : (pc : Int) + off = (tgt : Int)) (k : MC V l Y d C S Z tgt lv st w nn ck sk) : MC V l Y d C S Z pc lv st w nn ck sk := by
  intro p e R s m args below meth c H locs ls F G hl hP hS
  exact lv_goto F.1 F.2.1 hd ht (k p e R s m args below meth c H locs ls F G hl hP hS)
/-- Object's own constructor -/
theorem MC.obj {i a : Nat} (h1 : Cond.methodLink Y.1.cls i Lib.objectInit ∈ mm_gw) (h2 : Cond.instanceMethod Lib.objectInit ∈ mm_gw) (h3 : Cond.code Lib.objectInit ⟨#[0xb1]⟩ 1 none ∈ mm_gw) (hd1 : 1 ≤ d) (hst : st = []) (hd : decode Y.2.1 pc = .ok (.invokespecial i, 3)) (hn : pc + 3 = n) (k : MC V l Y d C S Z n lv st w nn ck sk) : MC V l Y d C S Z pc lv (.ref a :: st) w nn ck sk := by
  subst hn; subst hst
  intro p e R s m args below meth c H locs ls F G hl hP hS
  have hR := F.2.2.2.2.2.2.2.2.1
  exact W.objInit F.1 F.2.1 F.2.2.2.2.2.1 (F.2.2.2.2.2.2.1 _ h1) (F.2.2.2.2.2.2.1 _ h2) (F.2.2.2.2.2.2.1 _ h3) rfl (by rw [F.2.2.2.2.1]; exact hl.1) rfl hd (by omega) (by show 2 * 0 + 0 + _ ≤ _; omega) (k p e R s m args below meth c H locs ls F G hl hP hS)
/-- a new array: its values are there already -/
theorem MC.newarr {nn' ck' sk' : Nat} {N t : Nat} {ty : FieldType} {at9 : ArrayType} {i : Int32} (hty : newarray.typeOf at9 = ty) (ht : mm_tg nn = t ∧ mm_ln nn = N) (h20 : 20 ≤ t ∧ t < 24) (htys : ∀ V : mm_V, (mm_tys V)[t - 20]? = some (V.2.1 t, ty)) (hra : ∀ (U : State) (cA : ClassId), va_RA U cA ty = (U.vm.findClass ("[" ++ ty.toString) = some cA)) (hac : Cond.arrayClass ty ∈ mm_gw) (hi : i.toNatClampNeg = N) (hi0 : ¬ i < 0) (hby : N * componentBytes ty ≤ 536870912) (hw : ∀ k, k < N → w nn k = defaultValue ty) (hdv : ∀ V : mm_V, mm_rv V (defaultValue ty) = defaultValue ty) (hC : ck + 1 ≤ C) (hS : sk + N ≤ S) (hnn : nn + 1 = nn') (hck : ck + 1 = ck') (hsk : sk + N = sk') (hd : decode Y.2.1 pc = .ok (.newarray at9, 2)) (hn : pc + 2 = n) (k : MC V l Y d C S Z n lv (.ref nn :: st) w nn' ck' sk') : MC V l Y d C S Z pc lv (.int i :: st) w nn ck sk := by
  subst hn; subst hty; subst hnn; subst hck; subst hsk
  intro p e R s m args below meth c H locs ls F G hl hP hS9
  have hV := F.2.2.2.2.2.2.2.1.1
  have hK := (F.2.2.2.2.2.2.2.1.2.1).2 _ _ (htys V)
  have hsz : H.size = V.1 nn := by rw [hP.2.1, hV.1 nn hP.1]
  refine va_newaK (atype := at9) F.1 F.2.1 (F.2.2.2.2.2.2.1 _ hac) rfl hd rfl hi0 hi hby (by omega) (by omega) hsz fun H1 cA e1 z1 o1 hAr hNm => ?_
  have hcA : cA = V.2.1 t := by
    have h9 := hK.2
    rw [hra] at h9
    exact Option.some.inj (hNm.symm.trans h9)
  subst hcA
  refine k p e R s m args below meth c H1 locs ls F G hl (hP.push hV (by omega) (fun q hq => o1 q (by omega)) ?_) ⟨Nat.le_trans hS9.1 (by omega), fun q h1 h2 => (o1 q (by have := hS9.1; omega)).trans (hS9.2.1 q h1 h2), hS9.2.2⟩
  unfold mc_C
  rw [if_neg (by rw [ht.1]; omega), ht.1, ht.2, e1]
  exact congrArg some (arrV_congr (fun j hj => by rw [hw j hj, hdv]))
end MCR
section MCS
variable {V : mm_V} {l : Launch} {Y : mm_Y} {d C S ck sk : Nat} {Z : List Frame → Array Value → State → State → Prop} {pc n : Nat} {lv : List (Nat × Value)} {st : List Value} {w w' : Nat → Nat → Value} {nn : Nat}
/-- a new array of references, all null -/
theorem MC.newq {nn' ck' sk' : Nat} {N t : Nat} {Cn : String} {ix : Nat} {i : Int32} (ht : mm_tg nn = t ∧ mm_ln nn = N) (h20 : 24 ≤ t ∧ t < 26) (htys : ∀ V : mm_V, (mm_tys V)[t - 20]? = some (V.2.1 t, .object Cn)) (hAO : ∀ U : State, va_AO "PaidSecrets$State" U ∧ va_AO "PaidSecrets$Talk" U → va_AO Cn U) (hcl : Cond.classLink Y.1.cls ix Cn ∈ mm_gw) (hi : i.toNatClampNeg = N) (hi0 : ¬ i < 0) (hby : N * 4 ≤ 536870912) (hw : ∀ k, k < N → w nn k = .null) (hC : ck + 1 ≤ C) (hS : sk + N ≤ S) (hnn : nn + 1 = nn') (hck : ck + 1 = ck') (hsk : sk + N = sk') (hd : decode Y.2.1 pc = .ok (.anewarray ix, 3)) (hn : pc + 3 = n) (k : MC V l Y d C S Z n lv (.ref nn :: st) w nn' ck' sk') : MC V l Y d C S Z pc lv (.int i :: st) w nn ck sk := by
  subst hn; subst hi; subst hnn; subst hck; subst hsk
  intro p e R s m args below meth c H locs ls F G hl hP hS9
  have hV := F.2.2.2.2.2.2.2.1.1
  have hK := (F.2.2.2.2.2.2.2.1.2.1).2 _ _ (htys V)
  have hsz : H.size = V.1 nn := by rw [hP.2.1, hV.1 nn hP.1]
  refine W.anew F.1 F.2.1 F.2.2.2.2.2.1 (F.2.2.2.2.2.2.1 _ hcl) (va_AO.use (hAO s G.1)) rfl hd rfl hi0 hby (by omega) (by omega) fun cA kA comp f1 f2 f3 f4 => ?_
  generalize hH1 : H.push ({ cls := cA, slots := Array.replicate i.toNatClampNeg .null, vm := .none } : Cell) = H1
  have z1 : H1.size = H.size + 1 := by rw [← hH1, Array.size_push]
  have e1 : H1[H.size]? = some (arrV cA i.toNatClampNeg (fun _ => .null)) := by rw [← hH1, Array.getElem?_push_size, ← arrV_new]
  have o1 : ∀ q : Nat, q < H.size → H1[q]? = H[q]? := fun q hq => by rw [← hH1, Array.getElem?_push, if_neg (Nat.ne_of_lt hq)]
  have hcA : cA = V.2.1 t := by
    obtain ⟨kA', comp', g1, g2, g3, g4⟩ := hK.2
    exact Option.some.inj (f1.symm.trans g4)
  subst hcA
  rw [hsz] at e1 ⊢
  refine k p e R s m args below meth c H1 locs ls F G hl (hP.push hV z1 o1 ?_) ⟨Nat.le_trans hS9.1 (by omega), fun q h1 h2 => (o1 q (by have := hS9.1; omega)).trans (hS9.2.1 q h1 h2), hS9.2.2⟩
  unfold mc_C
  rw [if_neg (by rw [ht.1]; omega), ht.1, ht.2, e1]
  exact congrArg some (arrV_congr (fun j hj => by rw [hw j hj]; rfl))
/-- a new object, its fields at their defaults -/
theorem MC.new {nn' ck' sk' : Nat} {t ix : Nat} (ht : mm_tg nn = t) (ht2 : t < 10) (hly : mm_lays t) (htk : mm_tok t) (hcl : Cond.classLink Y.1.cls ix (mm_cl.getD t (RX0, TX0, 0)).1 ∈ mm_gw) (hins : Cond.instantiable (mm_cl.getD t (RX0, TX0, 0)).1 (mm_nf t) ∈ mm_gw) (hini : Cond.initialized (mm_cl.getD t (RX0, TX0, 0)).1 ∈ mm_gw) (hdv : ∀ V : mm_V, ∀ k, k < mm_nf t → mm_rv V (defaultValue (mm_ty t k)) = defaultValue (mm_ty t k)) (hC : ck + 1 ≤ C) (hS : sk + mm_nf t ≤ S) (hnn : nn + 1 = nn') (hck : ck + 1 = ck') (hsk : sk + mm_nf t = sk') (hd : decode Y.2.1 pc = .ok (.new ix, 3)) (hn : pc + 3 = n) (k : MC V l Y d C S Z n lv (.ref nn :: st) (mc_df w nn) nn' ck' sk') : MC V l Y d C S Z pc lv st w nn ck sk := by
  subst hn; subst hnn; subst hck; subst hsk
  intro p e R s m args below meth c H locs ls F G hl hP hS9
  have hV := F.2.2.2.2.2.2.2.1.1
  have hts := F.2.2.2.2.2.2.1
  have hKn := (F.2.2.2.2.2.2.2.1.2.1).1 t _ (mm_getD ht2)
  have hsz : H.size = V.1 nn := by rw [hP.2.1, hV.1 nn hP.1]
  refine W.newcK F.1 F.2.1 F.2.2.2.2.2.1 (hts _ hcl) (hts _ hins) (hts _ hini) rfl hd (by omega) (by omega) hKn.2.1 hsz fun H1 kC hkC e1 z1 o1 => ?_
  have hP0 : mc_P V (mc_df w nn) nn H := hP.to (fun a h1 h2 k _ => by unfold mc_df; rw [if_neg (by omega)])
  refine k p e R s m args below meth c H1 locs ls F G hl (hP0.push hV (by omega) (fun q hq => o1 q (by omega)) ?_) ⟨Nat.le_trans hS9.1 (by omega), fun q h1 h2 => (o1 q (by have := hS9.1; omega)).trans (hS9.2.1 q h1 h2), hS9.2.2⟩
  unfold mc_C
  rw [if_pos (by rw [ht]; omega), ht]
  refine (u_born (mm_ty t) hts hly hKn hkC e1 htk.1).to (fun j hj => ?_)
  unfold mc_df
  rw [if_pos rfl, ht, hdv V j hj]
/-- a field is set, not a final one -/
theorem MC.putN {a t i k : Nat} {v : Value} (ht : mm_tg a = t) (ha : a < nn) (hly : mm_lays t) (htk : mm_tok t) (hq : t < 10 ∧ k < mm_nf t ∧ (mm_fld t k).2.2.2 = false) (hnar : ∀ V : mm_V, narrow (mm_ty t k) (mm_rv V v) = mm_rv V v ∧ fits (mm_ty t k) (mm_rv V v) = true) (hlk : Cond.fieldLink Y.1.cls i (mm_fld t k).1 (mm_fld t k).2.1 (mm_fld t k).2.2.1 ∈ mm_gw) (hd : decode Y.2.1 pc = .ok (.putfield i, 3)) (hn : pc + 3 = n) (kk : MC V l Y d C S Z n lv st (mc_set w a k v) nn ck sk) : MC V l Y d C S Z pc lv (v :: .ref a :: st) w nn ck sk := by
  subst hn
  intro p e R s m args below meth c H locs ls F G hl hP hS0
  have hts := F.2.2.2.2.2.2.1
  have hV := F.2.2.2.2.2.2.2.1.1
  have hK := F.2.2.2.2.2.2.2.1.2.1
  have hal := mm_tg_lt ht (by omega)
  have hap := va_apart (own := RX0) hts hly (mm_ty t) htk.1 htk.2 hK (mm_getD hq.1)
  have hc0 := hP.2.2 a hal.1 ha
  unfold mc_C at hc0
  rw [if_pos (by rw [ht]; omega), ht] at hc0
  obtain ⟨cell, q1, q2, q3, q4⟩ := hc0
  obtain ⟨hS, hfc, kC, hkC, hkind⟩ := hK.1 t _ (mm_getD hq.1)
  obtain ⟨cf, kf, fi, f, hi, hsl⟩ := hS k hq.2.1
  have hlay := hts _ (hly _ (u_in_lay hq.2.1))
  unfold u_lay at hlay
  rw [if_neg (by show ¬ (mm_fld t k).2.2.2 = true; rw [hq.2.2]; decide)] at hlay
  have hst := (u_facts hfc hkC (u_lays hts hly hq.2.1) hi).1
  have h6 := u_store hfc hkC hkind hlay hi (htk.1 k hq.2.1) (hnar V).1 (hnar V).2
  refine W.putK F.1 F.2.1 (f := f) ⟨F.2.2.2.2.2.1, hts _ hlk, ⟨_, _, _, hi⟩, hst⟩ (by rw [q2]; exact h6) q1 q3 (by rw [hsl]; exact k2_hasslot (q4 k hq.2.1)) rfl rfl hd fun H' e1 e2 e3 => ?_
  rw [hsl] at e1 ⊢
  refine kk p e R s m args below meth c H' _ ls F G hl (hP.upd hV hal.1 e2 e3 (fun b j hb => by unfold mc_set; rw [if_neg (fun q => hb q.1)]) ?_) (hS0.put e2 e3 (hV.fr hal.1))
  unfold mc_C
  rw [if_pos (by rw [ht]; omega), ht]
  refine t_OB.to (V := updV (fun k => mm_rv V (w a k)) k (mm_rv V v)) ⟨_, e1, q2, q3, t_set q4 hap hq.2.1 _⟩ (fun j _ => ?_)
  unfold updV mc_set
  by_cases hj : j = k
  · subst hj; rw [if_pos rfl, if_pos ⟨rfl, rfl⟩]
  · rw [if_neg hj, if_neg (fun q => hj q.2)]
/-- a final field is set, in its own class' constructor -/
theorem MC.putF {a t i k : Nat} {v : Value} (ht : mm_tg a = t) (ha : a < nn) (hly : mm_lays t) (htk : mm_tok t) (hq : t < 10 ∧ k < mm_nf t ∧ (mm_fld t k).2.2.2 = true) (hown9 : (mm_fld t k).1 = Y.1.cls ∧ Y.1.name = "<init>") (hnar : ∀ V : mm_V, narrow (mm_ty t k) (mm_rv V v) = mm_rv V v ∧ fits (mm_ty t k) (mm_rv V v) = true) (hlk : Cond.fieldLink Y.1.cls i (mm_fld t k).1 (mm_fld t k).2.1 (mm_fld t k).2.2.1 ∈ mm_gw) (hd : decode Y.2.1 pc = .ok (.putfield i, 3)) (hn : pc + 3 = n) (kk : MC V l Y d C S Z n lv st (mc_set w a k v) nn ck sk) : MC V l Y d C S Z pc lv (v :: .ref a :: st) w nn ck sk := by
  subst hn
  intro p e R s m args below meth c H locs ls F G hl hP hS0
  have hts := F.2.2.2.2.2.2.1
  have hV := F.2.2.2.2.2.2.2.1.1
  have hK := F.2.2.2.2.2.2.2.1.2.1
  have hal := mm_tg_lt ht (by omega)
  have hap := va_apart (own := RX0) hts hly (mm_ty t) htk.1 htk.2 hK (mm_getD hq.1)
  have hc0 := hP.2.2 a hal.1 ha
  unfold mc_C at hc0
  rw [if_pos (by rw [ht]; omega), ht] at hc0
  obtain ⟨cell, q1, q2, q3, q4⟩ := hc0
  obtain ⟨hS, hfc, kC, hkC, hkind⟩ := hK.1 t _ (mm_getD hq.1)
  obtain ⟨cf, kf, fi, f, hi, hsl⟩ := hS k hq.2.1
  have hlay := hts _ (hly _ (u_in_lay hq.2.1))
  unfold u_lay at hlay
  rw [if_pos (show ((mm_cl.getD t (RX0, TX0, 0)).2.1 k).2.2.2 = true from hq.2.2)] at hlay
  have hst := (u_facts hfc hkC (u_lays hts hly hq.2.1) hi).1
  have hcf : m.cls = cf := by
    obtain ⟨_, _, c', _, _, _, -, -, hf', -, -, -, hown2, -⟩ := Cond.laysFinal_spec hlay
    have e1 : c' = cf := by have := hi.symm.trans hf'; simp at this; exact this.1.symm
    rw [show ((mm_cl.getD t (RX0, TX0, 0)).2.1 k).1 = Y.1.cls from hown9.1] at hown2
    rw [← e1]; exact Option.some.inj (F.2.2.2.2.2.1.symm.trans hown2)
  have h6 := u_fits hfc hkC hkind (Or.inr hlay) hi (htk.1 k hq.2.1) (hnar V).1 (hnar V).2
  refine W.putFinK F.1 F.2.1 F.2.2.2.2.2.1 (hts _ hlk) hi hst hcf (G.2.1 hown9.2) (by rw [q2]; exact h6) q1 q3 (by rw [hsl]; exact k2_hasslot (q4 k hq.2.1)) rfl rfl hd fun H' e1 e2 e3 => ?_
  rw [hsl] at e1 ⊢
  refine kk p e R s m args below meth c H' _ ls F G hl (hP.upd hV hal.1 e2 e3 (fun b j hb => by unfold mc_set; rw [if_neg (fun q => hb q.1)]) ?_) (hS0.put e2 e3 (hV.fr hal.1))
  unfold mc_C
  rw [if_pos (by rw [ht]; omega), ht]
  refine t_OB.to (V := updV (fun k => mm_rv V (w a k)) k (mm_rv V v)) ⟨_, e1, q2, q3, t_set q4 hap hq.2.1 _⟩ (fun j _ => ?_)
  unfold updV mc_set
  by_cases hj : j = k
  · subst hj; rw [if_pos rfl, if_pos ⟨rfl, rfl⟩]
  · rw [if_neg hj, if_neg (fun q => hj q.2)]
/-- a field that holds a cell is read -/
theorem MC.getR {a t i k r : Nat} (ht : mm_tg a = t) (ha : a < nn) (hly : mm_lays t) (hq : t < 10 ∧ k < mm_nf t) (hv : w a k = .ref r) (hlk : Cond.fieldLink Y.1.cls i (mm_fld t k).1 (mm_fld t k).2.1 (mm_fld t k).2.2.1 ∈ mm_gw) (hd : decode Y.2.1 pc = .ok (.getfield i, 3)) (hn : pc + 3 = n) (kk : MC V l Y d C S Z n lv (.ref r :: st) w nn ck sk) : MC V l Y d C S Z pc lv (.ref a :: st) w nn ck sk := by
  subst hn
  intro p e R s m args below meth c H locs ls F G hl hP hS0
  have hts := F.2.2.2.2.2.2.1
  have hK := F.2.2.2.2.2.2.2.1.2.1
  have hal := mm_tg_lt ht (by omega)
  have hc0 := hP.2.2 a hal.1 ha
  unfold mc_C at hc0
  rw [if_pos (by rw [ht]; omega), ht] at hc0
  obtain ⟨cell, q1, q2, q3, q4⟩ := hc0
  obtain ⟨hS, hfc, kC, hkC, hkind⟩ := hK.1 t _ (mm_getD hq.1)
  obtain ⟨cf, kf, fi, f, hi, hsl⟩ := hS k hq.2
  refine W.getf F.1 F.2.1 F.2.2.2.2.2.1 (hts _ hlk) hi (u_facts hfc hkC (u_lays hts hly hq.2) hi).1 q1 (by rw [q3]; exact fun h => by cases h) (v := .ref (V.1 r)) ?_ rfl rfl hd (kk p e R s m args below meth c H locs ls F G hl hP hS0)
  rw [hsl, q4 k hq.2]
  show some (mm_rv V (w a k)) = _
  rw [hv]
  rfl
/-- an object is put into an array of its class -/
theorem MC.aast {a v t tv N k : Nat} {i : Int32} {Cn : String} (ht : mm_tg a = t ∧ mm_ln a = N) (h20 : 24 ≤ t ∧ t < 26) (htys : ∀ V : mm_V, (mm_tys V)[t - 20]? = some (V.2.1 t, .object Cn)) (htv : mm_tg v = tv ∧ tv < 10 ∧ (mm_cl.getD tv (RX0, TX0, 0)).1 = Cn) (ha : a < nn) (hv : v < nn) (hi : mm_ix i N = some k) (hd : decode Y.2.1 pc = .ok (.aastore, 1)) (hn : pc + 1 = n) (kk : MC V l Y d C S Z n lv st (mc_set w a k (.ref v)) nn ck sk) : MC V l Y d C S Z pc lv (.ref v :: .int i :: .ref a :: st) w nn ck sk := by
  subst hn
  obtain ⟨hin, rfl⟩ := mm_ixE hi
  intro p e R s m args below meth c H locs ls F G hl hP hS0
  have hV := F.2.2.2.2.2.2.2.1.1
  have hK := F.2.2.2.2.2.2.2.1.2.1
  have hal := mm_tg_lt ht.1 (by omega)
  have hvl := mm_tg_lt htv.1 (by omega)
  have hc0 := hP.2.2 a hal.1 ha
  unfold mc_C at hc0
  rw [if_neg (by rw [ht.1]; omega), ht.1, ht.2] at hc0
  have hcv := hP.2.2 v hvl.1 hv
  unfold mc_C at hcv
  rw [if_pos (by rw [htv.1]; omega), htv.1] at hcv
  obtain ⟨cellV, g1, g2, g3, -⟩ := hcv
  have hcls := (hK.1 tv _ (mm_getD htv.2.1)).2
  obtain ⟨kA, comp, k1, k2, k3, -⟩ := (hK.2 _ _ (htys V)).2
  have hcomp : comp = V.2.1 tv := by
    have h9 := hcls.1
    rw [htv.2.2] at h9
    exact Option.some.inj (k3.symm.trans h9)
  subst hcomp
  obtain ⟨kC, hkC, -⟩ := hcls.2
  refine W.aast F.1 F.2.1 hc0 (fun q h => by cases h) (fun h => by cases h) k1 k2 rfl hkC ⟨fun q => hin (Or.inl q), by rw [arrV_size]; exact mm_in_lt hin⟩ g1 (fun q h => by rw [g3] at h; cases h) (by rw [g2]; exact hkC) (by rw [g2]; exact va_assign hcls) rfl rfl hd fun H' e1 e2 e3 => ?_
  refine kk p e R s m args below meth c H' _ ls F G hl (hP.upd hV hal.1 e2 e3 (fun b j hb => by unfold mc_set; rw [if_neg (fun q => hb q.1)]) ?_) (hS0.put e2 e3 (hV.fr hal.1))
  unfold mc_C
  rw [if_neg (by rw [ht.1]; omega), ht.1, ht.2, e1, arrV_store]
  congr 2
  funext j
  unfold updV mc_set
  by_cases hj : j = i.toNatClampNeg
  · subst hj; rw [if_pos rfl, if_pos ⟨rfl, rfl⟩]; rfl
  · rw [if_neg hj, if_neg (fun q => hj q.2)]
def mc_Q (V : mm_V) (w : Nat → Nat → Value) (n : Nat) : Array Value → State → Outcome → State → Prop := fun _ st o t => (o = .returned none ∧ mc_P V w n t.heap) ∧ va_F (mm_fr V) st t
def mc_Z (V : mm_V) (w : Nat → Nat → Value) (n mc ms : Nat) : List Frame → Array Value → State → State → Prop := fun below args s => MQ below (mc_Q V w n) args s mc ms (mm_fr V)
/-- a constructor's contract: it makes mc cells behind cell a -/
def MCT (V : mm_V) (l : Launch) (Y : mm_Y) (d mc ms a : Nat) (w : Nat → Nat → Value) : Prop :=
  Met l Y.1 (Cond.code Y.1 Y.2.1 Y.2.2.1 Y.2.2.2 :: mm_gw) { frames := d, cells := mc, slots := ms, locals := 60 * d } (va_Pc [.ref (V.1 a)] (fun U => mc_P V w (a + 1) U.heap ∧ mm_E V U U.heap ∧ va_AO "PaidSecrets$State" U ∧ va_AO "PaidSecrets$Talk" U)) (mc_Q V (mc_to w a) (a + 1 + mc)) mc ms (mm_fr V)
theorem MC.vret {w9 : Nat → Nat → Value} (e : ∀ a, 32 ≤ a → a < nn → ∀ k, k < mc_sl a → w9 a k = w a k) (hr : Y.2.2.2 = none) (hd : decode Y.2.1 pc = .ok (.return_, 1)) : MC V l Y d C S (mc_Z V w9 nn ck sk) pc lv [] w nn ck sk := by
  intro p e9 R s m args below meth c H locs ls F G hl hP hS
  exact W.vret F.1 F.2.1 (F.2.2.1.trans hr) (fun t ht hW => ⟨⟨rfl, by rw [ht]; exact hP.to e⟩, hS.F ht⟩) hS.2.2 hd F.2.2.2.1
theorem MCT.intro {mc ms a : Nat} (hy : plainFor Y.1 = true) (hn : 1 ≤ Y.2.2.1) (k : MC V l Y d mc ms (mc_Z V (mc_to w a) (a + 1 + mc) mc ms) 0 [(0, .ref a)] [] w (a + 1) 0 0) : MCT V l Y d mc ms a w := by
  refine va_MetF (cc := Y.2.1) (maxL := Y.2.2.1) (ret := Y.2.2.2) hy rfl ?_
  intro p e s m args below meth c s₁ B hml hv
  obtain ⟨rfl, hP, hE, hAO⟩ := hv
  have hts := atoms_spec (ws := Cond.code Y.1 Y.2.1 Y.2.2.1 Y.2.2.2 :: mm_gw) B.pre
  rw [lg_entry_eq]
  have hl := lv_entry ([.ref (V.1 a)]) (n := Y.2.2.1) hn
  exact k p e _ s m _ below meth c s.heap [] _ ⟨B.exec, B.bytes, B.returns, B.notSynchronized, hml, findClass_of_methodNamed B.named, fun w hw => hts w (List.mem_cons_of_mem _ hw), hE, ⟨Nat.le_refl _, Nat.le_refl _⟩, Nat.zero_le _, Nat.zero_le _⟩ ⟨hAO, fun h => (name_of_methodNamed B.named B.method).1.trans h, Nat.le_refl _, Nat.le_refl _⟩ hl hP va_S.rf
end MCS
section MCI
variable {V : mm_V} {l : Launch} {Y : mm_Y} {d C S ck sk : Nat} {Z : List Frame → Array Value → State → State → Prop} {pc n : Nat} {lv : List (Nat × Value)} {st : List Value} {w w' : Nat → Nat → Value} {nn : Nat}
theorem mc_after {p : Program} {e : Env} {R : Room} {s : State} {m : MethodId} {args : Array Value} {below : List Frame} {meth : Method} {c : Code} {H : Heap} {locs : List Loc} {ls : Array Slot} {Qw : State → Prop} {rest st0 : List Value} {a : Array Value} {cells slots mc ms : Nat} {w9 : Nat → Nat → Value} {n9 : Nat} (hr : va_Run p l e R s m args below meth c H locs cells slots mc ms (F0 m pc ls st0) rest (mc_Q V w9 n9 a) (mm_fr V)) (hS : va_S (mm_fr V) s.heap H locs)
    (kk : ∀ (H1 : Heap) (locs1 : List Loc), mc_P V w9 n9 H1 → va_S (mm_fr V) s.heap H1 locs1 → W p l e R s m args below meth c H1 locs1 (cells + mc) (slots + ms) Qw (F0 m (pc + 3) ls rest)) : W p l e R s m args below meth c H locs cells slots Qw (F0 m pc ls st0) := by
  intro T hT X
  obtain ⟨v, st₀, t, T', L, h0, X', hL, e1, e2, ⟨⟨hv, hp⟩, hz, hk⟩, st⟩ := hr T hT X
  cases hv
  rw [h0] at hz hk
  obtain ⟨t2, a1, b1⟩ := kk T'.heap (locs ++ L) (by rw [e1]; exact hp)
    ⟨Nat.le_trans hS.1 (by rw [e1]; exact hz), fun q h1 h2 => by rw [e1, hk q (Nat.lt_of_lt_of_le h1 hS.1) h2]; exact hS.2.1 q h1 h2, fun q hq => by
      rcases List.mem_append.mp hq with h | h
      · exact hS.2.2 q h
      · exact hL q h⟩ T' rfl X'
  exact ⟨t2, st t2 a1, b1⟩
theorem mc_blind {w9 : Nat → Nat → Value} {n9 : Nat} {av : List Value} : FrameBlind (va_Pc av (fun U => mc_P V w9 n9 U.heap ∧ mm_E V U U.heap ∧ va_AO "PaidSecrets$State" U ∧ va_AO "PaidSecrets$Talk" U)) :=
  fun a U g mk q => ⟨q.1, q.2.1, mm_E.same (s := U) rfl q.2.2.1, va_AO.moved (u := U) (Vm.Alike.refl U.vm) q.2.2.2.1, va_AO.moved (u := U) (Vm.Alike.refl U.vm) q.2.2.2.2⟩
/-- a constructor is called: by a nest mate, and by its own name -/
theorem MC.initN {nn' ck' sk' : Nat} {Y2 : mm_Y} {d2 mc ms a index : Nat} {host : String} (hT : ∀ w : Nat → Nat → Value, MCT V l Y2 d2 mc ms a (mc_df w a)) (ha : nn = a + 1) (hcode : Cond.code Y2.1 Y2.2.1 Y2.2.2.1 Y2.2.2.2 ∈ mm_gw) (hret : Y2.2.2.2 = none) (hini : Cond.initialized Y2.1.cls ∈ mm_gw) (hdd : (Y2.1.cls ≠ "java/lang/invoke/MethodHandle" ∧ Y2.1.cls ≠ "java/lang/invoke/VarHandle" ∧ (parseMethodDescriptor Y2.1.desc).map (fun d => d.parameters.length) = some 0) ∧ Y2.2.2.1 ≤ 41 ∧ Y2.1.name = "<init>") (hin : Cond.instanceMethod Y2.1 ∈ mm_gw) (hl : Cond.methodLinkNest Y.1.cls index Y2.1 host ∈ mm_nw) (hd2 : d2 + 1 ≤ d) (hcat : (st.map fun v => v.category).sum ≤ 8) (hC : ck + mc ≤ C) (hS9 : sk + ms ≤ S) (hnn : a + 1 + mc = nn') (hck : ck + mc = ck') (hsk : sk + ms = sk')
    (hd : decode Y.2.1 pc = .ok (.invokespecial index, 3)) (hn : pc + 3 = n) (k : MC V l Y d C S Z n lv st (mc_to w a) nn' ck' sk') : MC V l Y d C S Z pc lv (.ref a :: st) (mc_df w a) nn ck sk := by
  subst hn; subst ha; subst hnn; subst hck; subst hsk
  intro p e R s m args below meth c H locs ls F G hl0 hP hS
  have hR := F.2.2.2.2.2.2.2.2.1
  have cw : va_CN R s args Y.1.cls index Y2.1 host Y2.2.1 Y2.2.2.1 none (Cond.code Y2.1 Y2.2.1 Y2.2.2.1 Y2.2.2.2 :: mm_gw) { frames := d2, cells := mc, slots := ms, locals := 60 * d2 } mc ms 0 := by
    refine va_cnB (Ts := mm_gw) 0 F.2.2.2.2.2.2.1 (mm_gw_good hcode) (by rw [hret]) rfl rfl (F.2.2.2.2.2.2.2.1.2.2.1 _ hl) (F.2.2.2.2.2.2.1 _ hini) hdd.1 ⟨?_, ?_⟩
    · show d2 + 1 ≤ R.frames; omega
    · show 8 + (Y2.2.2.1 + 11) + 60 * d2 ≤ R.locals
      have := hdd.2.1
      omega
  have run : va_Run p l e R s m args below meth c H locs ck sk mc ms (F0 m pc ls ((.ref a :: st).map (mm_rv V))) (st.map (mm_rv V)) (mc_Q V (mc_to (mc_df w a) a) (a + 1 + mc) ([.ref (V.1 a)] : List Value).toArray) (mm_fr V) := va_runIN (H := H) (locs := locs) (g := F0 m pc ls ((.ref a :: st).map (mm_rv V))) (b := V.1 a) (As := []) (rest := st.map (mm_rv V)) (mm_fix F) (hT w) ⟨cw, hdd.2.2, F.2.2.2.2.2.2.1 _ hin⟩
    ⟨mc_blind, fun U hU hW => ⟨rfl, by rw [hU]; exact hP, by rw [hU]; exact mm_E.moved hW hS.2.1 F.2.2.2.2.2.2.2.1, va_AO.moved hW.alike G.1.1, va_AO.moved hW.alike G.1.2⟩⟩ rfl rfl hl0.1 rfl (lv_room (by rw [List.map_map]; have e9 : (fun v => Value.category v) ∘ mm_rv V = fun v => Value.category v := funext fun v => mm_rv_cat V v; rw [e9]; exact hcat)) hd ⟨by omega, by omega⟩
  refine mc_after run hS fun H1 locs1 hP1 hS1 => ?_
  exact k p e R s m args below meth c H1 locs1 ls F G hl0 (hP1.to (fun b h1 h2 j _ => by unfold mc_to mc_df; by_cases hb : a ≤ b <;> simp [hb]; intro hba; omega)) hS1
/-- what a constructor starts from: behind its own cell the rows are as they will be -/
def mc_own (w : Nat → Nat → Value) (a : Nat) (fs : List Value) : Nat → Nat → Value := fun b j => if b = a then fs.getD j .null else if a < b then mm_val mc_h0 b j else w b j
theorem MC.own {a : Nat} {fs : List Value} (ha : nn = a + 1) (hf : ∀ k, k < mc_sl a → fs.getD k .null = defaultValue (mm_ty (mm_tg a) k)) (k : MC V l Y d C S Z pc lv st (mc_own w a fs) nn ck sk) : MC V l Y d C S Z pc lv st (mc_df w a) nn ck sk := by
  refine MC.to (fun b h1 h2 j hj => ?_) k
  unfold mc_own mc_df
  by_cases hb : b = a
  · subst hb; rw [if_pos rfl, if_pos rfl, hf j hj]
  · rw [if_neg hb, if_neg hb, if_neg (by omega)]
theorem mc_own_set {a k : Nat} {v : Value} {fs fs' : List Value} (hk : k < fs.length) (e : fs.set k v = fs') : mc_set (mc_own w a fs) a k v = mc_own w a fs' := by
  subst e
  funext b j
  unfold mc_set mc_own
  by_cases hb : b = a
  · subst hb
    by_cases hj : j = k
    · subst hj
      rw [if_pos ⟨rfl, rfl⟩, if_pos rfl, List.getD_eq_getElem?_getD, List.getElem?_set_self (by omega)]
      rfl
    · rw [if_neg (fun q => hj q.2), if_pos rfl, if_pos rfl, List.getD_eq_getElem?_getD, List.getD_eq_getElem?_getD, List.getElem?_set_ne (fun q => hj q.symm)]
  · rw [if_neg (fun q => hb q.1), if_neg hb, if_neg hb]
theorem mc_own_new {a b k : Nat} {fs : List Value} (h : a < b) : mc_own w a fs b k = mm_val mc_h0 b k := by
  unfold mc_own
  rw [if_neg (by omega), if_pos h]
theorem mc_own_to {a c : Nat} {fs : List Value} (h : a < c) : mc_to (mc_own w a fs) c = mc_own w a fs := by
  funext b j
  unfold mc_to mc_own
  by_cases hb : c ≤ b
  · rw [if_pos hb, if_neg (by omega), if_pos (by omega)]
  · rw [if_neg hb]
theorem mc_fin {a nn : Nat} {fs : List Value} (hf : ∀ k, k < mc_sl a → fs.getD k .null = mm_val mc_h0 a k) : ∀ b, 32 ≤ b → b < nn → ∀ k, k < mc_sl b → mc_to (mc_df w a) a b k = mc_own w a fs b k := by
  intro b h1 h2 k hk
  unfold mc_to mc_df mc_own
  by_cases hb : b = a
  · subst hb
    rw [if_pos (Nat.le_refl _), if_pos rfl, hf k hk]
  · by_cases hb2 : a ≤ b
    · rw [if_pos hb2, if_neg hb, if_pos (by omega)]
    · rw [if_neg hb2, if_neg hb, if_neg hb, if_neg (by omega)]
theorem mc_v_int {a k t : Nat} (ht : mm_tg a = t) (h : t = 20 ∨ t = 22 ∨ t = 23) : mm_val mc_h0 a k = .int 0 := by
  have hne : a ≠ 33 := by
    intro q; subst q
    have : mm_tg 33 = 6 := by decide +kernel
    omega
  have hk : mm_kd (mm_ty t k) = 0 := by rcases h with rfl | rfl | rfl <;> rfl
  rw [mm_val_i ht hk]
  show Value.int (if a = 33 ∧ k = 4 then 1 else if a = 33 ∧ k = 8 then 32 else 0) = _
  rw [if_neg (fun q => hne q.1), if_neg (fun q => hne q.1)]
theorem mc_v_long {a k : Nat} (ht : mm_tg a = 21) : mm_val mc_h0 a k = .long 0 := by
  rw [mm_val_l ht rfl]
  rfl
end MCI
/-! PaidSecrets' own constructor: three arrays of references are filled by loops -/
def mc_x (w : Nat → Nat → Value) (fs : List Value) (i j1 j2 : Nat) : Nat → Nat → Value := fun b k => if b = 61 ∧ i ≤ k then .null else if b = 62 ∧ j1 ≤ k then .null else if b = 63 ∧ j2 ≤ k then .null else mc_own w 32 fs b k
section MCX
variable {w : Nat → Nat → Value} {fs : List Value} {i j1 j2 nn : Nat}
theorem mc_x_own (h : nn ≤ 61) : ∀ b, 32 ≤ b → b < nn → ∀ k, k < mc_sl b → mc_x w fs i j1 j2 b k = mc_own w 32 fs b k := by
  intro b h1 h2 k _
  unfold mc_x
  rw [if_neg (by omega), if_neg (by omega), if_neg (by omega)]
theorem mc_x_set {k : Nat} {v : Value} {fs' : List Value} (hk : k < fs.length) (e : fs.set k v = fs') : mc_set (mc_x w fs i j1 j2) 32 k v = mc_x w fs' i j1 j2 := by
  have h0 := mc_own_set (w := w) (a := 32) hk e
  funext b j
  have h1 := congrFun (congrFun h0 b) j
  unfold mc_set at h1 ⊢
  unfold mc_x
  by_cases hb : b = 32
  · subst hb
    simp at h1 ⊢
    exact h1
  · rw [if_neg (fun q => hb q.1)] at h1 ⊢
    rw [h1]
theorem mc_x_to {c : Nat} (h : 32 < c ∧ (nn ≤ 61 ∨ 63 < c)) : ∀ b, 32 ≤ b → b < nn → ∀ k, k < mc_sl b → mc_x w fs i j1 j2 b k = mc_to (mc_x w fs i j1 j2) c b k := by
  intro b h1 h2 k _
  unfold mc_to
  by_cases hb : c ≤ b
  · rw [if_pos hb]
    unfold mc_x
    rw [if_neg (by omega), if_neg (by omega), if_neg (by omega), mc_own_new (by omega)]
  · rw [if_neg hb]
theorem mc_x_new {b k : Nat} (h : 32 < b ∧ b ≠ 61 ∧ b ≠ 62 ∧ b ≠ 63) : mc_x w fs i j1 j2 b k = mm_val mc_h0 b k := by
  unfold mc_x
  rw [if_neg (fun q => h.2.1 q.1), if_neg (fun q => h.2.2.1 q.1), if_neg (fun q => h.2.2.2 q.1), mc_own_new h.1]
theorem mc_v61 (k : Nat) : mm_val mc_h0 61 k = .ref (113 + 6 * k) := by
  have ht : mm_tg 61 = 24 := by decide +kernel
  rw [mm_val_r ht rfl]
  unfold mm_rf mm_ad
  rw [ht]
  rfl
theorem mc_v62 (k : Nat) : mm_val mc_h0 62 k = .ref (209 + 13 * k) := by
  have ht : mm_tg 62 = 24 := by decide +kernel
  rw [mm_val_r ht rfl]
  unfold mm_rf mm_ad
  rw [ht]
  rfl
theorem mc_v63 (k : Nat) : mm_val mc_h0 63 k = .ref (215 + 13 * k) := by
  have ht : mm_tg 63 = 25 := by decide +kernel
  rw [mm_val_r ht rfl]
  unfold mm_rf mm_ad
  rw [ht]
  rfl
theorem mc_x61 : mc_set (mc_x w fs i j1 j2) 61 i (.ref (113 + 6 * i)) = mc_x w fs (i + 1) j1 j2 := by
  funext b k
  unfold mc_set mc_x
  by_cases hb : b = 61
  · subst hb
    by_cases hk : k = i
    · subst hk
      simp
      rw [mc_own_new (by omega), mc_v61, if_neg (by omega)]
    · by_cases h : i ≤ k
      · have h9 : i + 1 ≤ k := by omega
        simp [hk, h, h9]
      · have h9 : ¬ i + 1 ≤ k := by omega
        simp [hk, h, h9]
  · simp [hb]
theorem mc_x62 : mc_set (mc_x w fs i j1 j2) 62 j1 (.ref (209 + 13 * j1)) = mc_x w fs i (j1 + 1) j2 := by
  funext b k
  unfold mc_set mc_x
  by_cases hb : b = 62
  · subst hb
    by_cases hk : k = j1
    · subst hk
      simp
      rw [mc_own_new (by omega), mc_v62, if_neg (by omega)]
    · by_cases h : j1 ≤ k
      · have h9 : j1 + 1 ≤ k := by omega
        simp [hk, h, h9]
      · have h9 : ¬ j1 + 1 ≤ k := by omega
        simp [hk, h, h9]
  · simp [hb]
theorem mc_x63 : mc_set (mc_x w fs i j1 j2) 63 j2 (.ref (215 + 13 * j2)) = mc_x w fs i j1 (j2 + 1) := by
  funext b k
  unfold mc_set mc_x
  by_cases hb : b = 63
  · subst hb
    by_cases hk : k = j2
    · subst hk
      simp
      rw [mc_own_new (by omega), mc_v63, if_neg (by omega)]
    · by_cases h : j2 ≤ k
      · have h9 : j2 + 1 ≤ k := by omega
        simp [hk, h, h9]
      · have h9 : ¬ j2 + 1 ≤ k := by omega
        simp [hk, h, h9]
  · simp [hb]
theorem mc_x_fin (hf : ∀ k, k < mc_sl 32 → fs.getD k .null = mm_val mc_h0 32 k) : ∀ b, 32 ≤ b → b < nn → ∀ k, k < mc_sl b → mc_to (mc_df w 32) 32 b k = mc_x w fs 16 4 4 b k := by
  intro b h1 h2 k hk
  have s1 : mc_sl 61 = 16 := by decide +kernel
  have s2 : mc_sl 62 = 4 := by decide +kernel
  have s3 : mc_sl 63 = 4 := by decide +kernel
  have e := mc_fin (w := w) (nn := nn) hf b h1 h2 k hk
  rw [e]
  unfold mc_x
  rw [if_neg, if_neg, if_neg]
  · rintro ⟨rfl, h⟩; omega
  · rintro ⟨rfl, h⟩; omega
  · rintro ⟨rfl, h⟩; omega
theorem mc_i16 : ∀ i : Nat, i < 16 → (¬ (16 : Int32) ≤ Int32.ofNat i) ∧ mm_ix (Int32.ofNat i) 16 = some i ∧ mm_tg (113 + 6 * i) = 4 := by decide +kernel
theorem mc_i4 : ∀ i : Nat, i < 4 → (¬ (4 : Int32) ≤ Int32.ofNat i) ∧ mm_ix (Int32.ofNat i) 4 = some i ∧ mm_tg (209 + 13 * i) = 4 ∧ mm_tg (215 + 13 * i) = 5 := by decide +kernel
theorem mc_inc (i : Nat) : Int32.ofNat (i + 1) = Int32.ofNat i + 1 := by rw [Int32.ofNat_add]; rfl
end MCX
