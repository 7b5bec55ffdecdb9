/-! THE JUDGEMENT MM: from the place pc of method Y, with locals lv, stack st and memory h, the machine comes to an end with Z -/
def mm_F (V : mm_V) (Y : mm_Y) (d ck sk : Nat) (p : Program) (R : Room) (s : State) (m : MethodId) (args : Array Value) (meth : Method) (c : Code) : Prop :=
  p.tables.exec = Jvm.exec ∧ c.code = Y.2.1 ∧ meth.sig.returnType = Y.2.2.2 ∧ meth.locks = false ∧ c.maxLocals = Y.2.2.1 ∧ s.vm.findClass Y.1.cls = some m.cls ∧ (∀ w ∈ mm_gw, w.before args s = true) ∧ mm_E V s s.heap ∧ (d ≤ R.frames ∧ 60 * d ≤ R.locals) ∧ ck ≤ R.cells ∧ sk ≤ R.slots
def MM (V : mm_V) (l : Launch) (Y : mm_Y) (d ck sk : Nat) (Z : List Frame → Array Value → State → State → Prop) (pc : Nat) (lv : List (Nat × Value)) (st : List Value) (h : mm_H) : Prop :=
  ∀ (p : Program) (e : Env) (R : Room) (s : State) (m : MethodId) (args : Array Value) (below : List Frame) (meth : Method) (c : Code) (H : Heap) (locs : List Loc) (ls : Array Slot),
    mm_F V Y d ck sk p R s m args meth c → lv_has ls Y.2.2.1 (lv.map (mm_lp V)) → mm_P V h H → va_S (mm_fr V) s.heap H locs →
    W p l e R s m args below meth c H locs ck sk (Z below args s) (F0 m pc ls (st.map (mm_rv V)))
def mm_Q (V : mm_V) (Q : Option Value → mm_H → Prop) : Array Value → State → Outcome → State → Prop := fun _ st o t =>
  (∃ (r : Option Value) (h : mm_H), o = .returned (r.map (mm_rv V)) ∧ Q r h ∧ mm_P V h t.heap) ∧ va_F (mm_fr V) st t
/-- a method's usual end: it makes no cell -/
def mm_Z (V : mm_V) (Q : Option Value → mm_H → Prop) : List Frame → Array Value → State → State → Prop := fun below args s => MQ below (mm_Q V Q) args s 0 0 (mm_fr V)
def mm_lg (lv : List (Nat × Value)) (i : Nat) : Option Value := (lv.find? (fun q => q.1 == i)).map (fun q => q.2)
theorem mm_lgE {V : mm_V} {ls : Array Slot} {n i : Nat} {lv : List (Nat × Value)} {v : Value} (hl : lv_has ls n (lv.map (mm_lp V))) (hg : mm_lg lv i = some v) : ls[i]? = some (.val (mm_rv V v)) := by
  unfold mm_lg at hg
  cases hf : lv.find? (fun q => q.1 == i) with
  | none => rw [hf] at hg; cases hg
  | some q =>
    rw [hf] at hg
    cases hg
    have h1 := List.find?_some hf
    have h2 := List.mem_of_find?_eq_some hf
    have h3 : q.1 = i := by simpa using h1
    have h4 := hl.2.2 (mm_lp V q) (List.mem_map.mpr ⟨q, h2, rfl⟩)
    rw [← h3]
    exact h4
def mm_st1 (lv : List (Nat × Value)) (i : Nat) (v : Value) : List (Nat × Value) := (i, v) :: lv.filter (fun q => !(q.1 == i) && !(q.1 + 1 == i && q.2.category == 2))
def mm_st2 (lv : List (Nat × Value)) (i : Nat) (v : Value) : List (Nat × Value) := (i, v) :: lv.filter (fun q => !(q.1 == i) && (!(q.1 == i + 1) && !(q.1 + 1 == i && q.2.category == 2)))
theorem mm_rv_cat (V : mm_V) (v : Value) : (mm_rv V v).category = v.category := by cases v <;> rfl
theorem mm_st1_map {V : mm_V} {lv lv' : List (Nat × Value)} {i : Nat} {v : Value} (h : mm_st1 lv i v = lv') : (i, mm_rv V v) :: (lv.map (mm_lp V)).filter (fun q => !(q.1 == i) && !(q.1 + 1 == i && q.2.category == 2)) = lv'.map (mm_lp V) := by
  subst h
  simp only [mm_st1, List.map_cons, List.filter_map, mm_lp]
  congr 2
  refine List.filter_congr fun q _ => ?_
  simp [mm_lp, mm_rv_cat]
theorem mm_st2_map {V : mm_V} {lv lv' : List (Nat × Value)} {i : Nat} {v : Value} (h : mm_st2 lv i v = lv') : (i, mm_rv V v) :: (lv.map (mm_lp V)).filter (fun q => !(q.1 == i) && (!(q.1 == i + 1) && !(q.1 + 1 == i && q.2.category == 2))) = lv'.map (mm_lp V) := by
  subst h
  simp only [mm_st2, List.map_cons, List.filter_map, mm_lp]
  congr 2
  refine List.filter_congr fun q _ => ?_
  simp [mm_lp, mm_rv_cat]
theorem mm_rv_rf (V : mm_V) (r : Option Nat) : mm_rv V (va_rf r) = va_rf (r.map V.1) := by cases r <;> rfl
section MMR
variable {V : mm_V} {l : Launch} {Y : mm_Y} {d ck sk : Nat} {Z : List Frame → Array Value → State → State → Prop} {pc n : Nat} {lv lv' : List (Nat × Value)} {st : List Value} {h : mm_H}
theorem MM.sub (ks : List Nat) (hk : lv_pick lv ks = lv') (k : MM V l Y d ck sk Z pc lv' st h) : MM V l Y d ck sk Z pc lv st h := by
  intro p e R s m args below meth c H locs ls F hl hP hS
  refine k p e R s m args below meth c H locs ls F (lv_sub hl ks ?_) hP hS
  subst hk
  simp only [lv_pick, List.getElem?_map, List.map_filterMap]
theorem MM.iconst {i : Int} {v : Int32} (hv : Int32.ofInt i = v) (hd : decode Y.2.1 pc = .ok (.iconst i, 1)) (hn : pc + 1 = n) (k : MM V l Y d ck sk Z n lv (.int v :: st) h) : MM V l Y d ck sk Z pc lv (st) h := by
  subst hn
  intro p e R s m args below meth c H locs ls F hl hP hS
  exact lv_iconst F.1 F.2.1 hd hv (k p e R s m args below meth c H locs ls F hl hP hS)
theorem MM.bipush {i : Int} {v : Int32} (hv : (Int8.ofInt i).toInt32 = v) (hd : decode Y.2.1 pc = .ok (.bipush i, 2)) (hn : pc + 2 = n) (k : MM V l Y d ck sk Z n lv (.int v :: st) h) : MM V l Y d ck sk Z pc lv (st) h := by
  subst hn
  intro p e R s m args below meth c H locs ls F hl hP hS
  exact lv_bipush F.1 F.2.1 hd hv (k p e R s m args below meth c H locs ls F hl hP hS)
theorem MM.sipush {i : Int} {v : Int32} (hv : (Int16.ofInt i).toInt32 = v) (hd : decode Y.2.1 pc = .ok (.sipush i, 3)) (hn : pc + 3 = n) (k : MM V l Y d ck sk Z n lv (.int v :: st) h) : MM V l Y d ck sk Z pc lv (st) h := by
  subst hn
  intro p e R s m args below meth c H locs ls F hl hP hS
  exact lv_sipush F.1 F.2.1 hd hv (k p e R s m args below meth c H locs ls F hl hP hS)
theorem MM.lconst {i : Fin 2} {v : Int64} (hv : Int64.ofNat (i : Nat) = v) (hd : decode Y.2.1 pc = .ok (.lconst i, 1)) (hn : pc + 1 = n) (k : MM V l Y d ck sk Z n lv (.long v :: st) h) : MM V l Y d ck sk Z pc lv (st) h := by
  subst hn
  intro p e R s m args below meth c H locs ls F hl hP hS
  exact lv_lconst F.1 F.2.1 hd hv (k p e R s m args below meth c H locs ls F hl hP hS)
theorem MM.anull  (hd : decode Y.2.1 pc = .ok (.aconst_null, 1)) (hn : pc + 1 = n) (k : MM V l Y d ck sk Z n lv (va_rf none :: st) h) : MM V l Y d ck sk Z pc lv (st) h := by
  subst hn
  intro p e R s m args below meth c H locs ls F hl hP hS
  exact lv_null F.1 F.2.1 hd (k p e R s m args below meth c H locs ls F hl hP hS)
theorem MM.ldc {i : Nat} {v : Int32} (hc : Cond.constant Y.1.cls i v ∈ mm_gw) (hd : decode Y.2.1 pc = .ok (.ldc i, 2)) (hn : pc + 2 = n) (k : MM V l Y d ck sk Z n lv (.int v :: st) h) : MM V l Y d ck sk Z pc lv (st) h := by
  subst hn
  intro p e R s m args below meth c H locs ls F hl hP hS
  exact lv_ldc F.1 F.2.1 F.2.2.2.2.2.1 (F.2.2.2.2.2.2.1 _ hc) hd (k p e R s m args below meth c H locs ls F hl hP hS)
theorem MM.ldc_w {i : Nat} {v : Int32} (hc : Cond.constant Y.1.cls i v ∈ mm_gw) (hd : decode Y.2.1 pc = .ok (.ldc_w i, 3)) (hn : pc + 3 = n) (k : MM V l Y d ck sk Z n lv (.int v :: st) h) : MM V l Y d ck sk Z pc lv (st) h := by
  subst hn
  intro p e R s m args below meth c H locs ls F hl hP hS
  exact lv_ldcw F.1 F.2.1 F.2.2.2.2.2.1 (F.2.2.2.2.2.2.1 _ hc) hd (k p e R s m args below meth c H locs ls F hl hP hS)
theorem MM.ldc2 {i : Nat} {v : Int64} (hc : Cond.constantLong Y.1.cls i v ∈ mm_gw) (hd : decode Y.2.1 pc = .ok (.ldc2_w i, 3)) (hn : pc + 3 = n) (k : MM V l Y d ck sk Z n lv (.long v :: st) h) : MM V l Y d ck sk Z pc lv (st) h := by
  subst hn
  intro p e R s m args below meth c H locs ls F hl hP hS
  exact lv_ldc2 F.1 F.2.1 F.2.2.2.2.2.1 (F.2.2.2.2.2.2.1 _ hc) hd (k p e R s m args below meth c H locs ls F hl hP hS)
theorem MM.iload_n {j : Fin 4} {i : Nat} {x : Int32} (hi : (j : Nat) = i) (hg : mm_lg lv i = some (.int x)) (hd : decode Y.2.1 pc = .ok (.iload_n j, 1)) (hn : pc + 1 = n) (k : MM V l Y d ck sk Z n lv (.int x :: st) h) : MM V l Y d ck sk Z pc lv (st) h := by
  subst hn
  intro p e R s m args below meth c H locs ls F hl hP hS
  exact lv_iload_n F.1 F.2.1 hd hi (mm_lgE hl hg) (k p e R s m args below meth c H locs ls F hl hP hS)
theorem MM.iload {i : Nat} {x : Int32} (hg : mm_lg lv i = some (.int x)) (hd : decode Y.2.1 pc = .ok (.iload i, 2)) (hn : pc + 2 = n) (k : MM V l Y d ck sk Z n lv (.int x :: st) h) : MM V l Y d ck sk Z pc lv (st) h := by
  subst hn
  intro p e R s m args below meth c H locs ls F hl hP hS
  exact lv_iload F.1 F.2.1 hd (mm_lgE hl hg) (k p e R s m args below meth c H locs ls F hl hP hS)
theorem MM.istore_n {j : Fin 4} {i : Nat} {x y : Int32} (e : y = x) (hi : (j : Nat) = i) (hb : i < Y.2.2.1) (hs : mm_st1 lv i (.int y) = lv') (hd : decode Y.2.1 pc = .ok (.istore_n j, 1)) (hn : pc + 1 = n) (k : MM V l Y d ck sk Z n lv' st h) : MM V l Y d ck sk Z pc lv (.int x :: st) h := by
  subst hn
  subst e
  intro p e9 R s m args below meth c H locs ls F hl hP hS
  exact lv_istore_n F.1 F.2.1 hd hi hl hb (mm_st1_map hs) (fun ls' hl' => k p e9 R s m args below meth c H locs ls' F hl' hP hS)
theorem MM.istore {i : Nat} {x y : Int32} (e : y = x) (hb : i < Y.2.2.1) (hs : mm_st1 lv i (.int y) = lv') (hd : decode Y.2.1 pc = .ok (.istore i, 2)) (hn : pc + 2 = n) (k : MM V l Y d ck sk Z n lv' st h) : MM V l Y d ck sk Z pc lv (.int x :: st) h := by
  subst hn
  subst e
  intro p e9 R s m args below meth c H locs ls F hl hP hS
  exact lv_istore F.1 F.2.1 hd hl hb (mm_st1_map hs) (fun ls' hl' => k p e9 R s m args below meth c H locs ls' F hl' hP hS)
theorem MM.lload_n {j : Fin 4} {i : Nat} {x : Int64} (hi : (j : Nat) = i) (hg : mm_lg lv i = some (.long x)) (hd : decode Y.2.1 pc = .ok (.lload_n j, 1)) (hn : pc + 1 = n) (k : MM V l Y d ck sk Z n lv (.long x :: st) h) : MM V l Y d ck sk Z pc lv (st) h := by
  subst hn
  intro p e R s m args below meth c H locs ls F hl hP hS
  exact lv_lload_n F.1 F.2.1 hd hi (mm_lgE hl hg) (k p e R s m args below meth c H locs ls F hl hP hS)
theorem MM.lload {i : Nat} {x : Int64} (hg : mm_lg lv i = some (.long x)) (hd : decode Y.2.1 pc = .ok (.lload i, 2)) (hn : pc + 2 = n) (k : MM V l Y d ck sk Z n lv (.long x :: st) h) : MM V l Y d ck sk Z pc lv (st) h := by
  subst hn
  intro p e R s m args below meth c H locs ls F hl hP hS
  exact lv_lload F.1 F.2.1 hd (mm_lgE hl hg) (k p e R s m args below meth c H locs ls F hl hP hS)
theorem MM.lstore_n {j : Fin 4} {i : Nat} {x y : Int64} (e : y = x) (hi : (j : Nat) = i) (hb : i + 1 < Y.2.2.1) (hs : mm_st2 lv i (.long y) = lv') (hd : decode Y.2.1 pc = .ok (.lstore_n j, 1)) (hn : pc + 1 = n) (k : MM V l Y d ck sk Z n lv' st h) : MM V l Y d ck sk Z pc lv (.long x :: st) h := by
  subst hn
  subst e
  intro p e9 R s m args below meth c H locs ls F hl hP hS
  exact lv_lstore_n F.1 F.2.1 hd hi hl hb (mm_st2_map hs) (fun ls' hl' => k p e9 R s m args below meth c H locs ls' F hl' hP hS)
theorem MM.lstore {i : Nat} {x y : Int64} (e : y = x) (hb : i + 1 < Y.2.2.1) (hs : mm_st2 lv i (.long y) = lv') (hd : decode Y.2.1 pc = .ok (.lstore i, 2)) (hn : pc + 2 = n) (k : MM V l Y d ck sk Z n lv' st h) : MM V l Y d ck sk Z pc lv (.long x :: st) h := by
  subst hn
  subst e
  intro p e9 R s m args below meth c H locs ls F hl hP hS
  exact lv_lstore F.1 F.2.1 hd hl hb (mm_st2_map hs) (fun ls' hl' => k p e9 R s m args below meth c H locs ls' F hl' hP hS)
theorem MM.aload_n {j : Fin 4} {i : Nat} {x : Nat} (hi : (j : Nat) = i) (hg : mm_lg lv i = some (.ref x)) (hd : decode Y.2.1 pc = .ok (.aload_n j, 1)) (hn : pc + 1 = n) (k : MM V l Y d ck sk Z n lv (.ref x :: st) h) : MM V l Y d ck sk Z pc lv (st) h := by
  subst hn
  intro p e R s m args below meth c H locs ls F hl hP hS
  exact lv_aload_n F.1 F.2.1 hd hi (mm_lgE hl hg) (k p e R s m args below meth c H locs ls F hl hP hS)
theorem MM.aload {i : Nat} {x : Nat} (hg : mm_lg lv i = some (.ref x)) (hd : decode Y.2.1 pc = .ok (.aload i, 2)) (hn : pc + 2 = n) (k : MM V l Y d ck sk Z n lv (.ref x :: st) h) : MM V l Y d ck sk Z pc lv (st) h := by
  subst hn
  intro p e R s m args below meth c H locs ls F hl hP hS
  exact lv_aload F.1 F.2.1 hd (mm_lgE hl hg) (k p e R s m args below meth c H locs ls F hl hP hS)
theorem MM.astore_n {j : Fin 4} {i : Nat} {x y : Nat} (e : y = x) (hi : (j : Nat) = i) (hb : i < Y.2.2.1) (hs : mm_st1 lv i (.ref y) = lv') (hd : decode Y.2.1 pc = .ok (.astore_n j, 1)) (hn : pc + 1 = n) (k : MM V l Y d ck sk Z n lv' st h) : MM V l Y d ck sk Z pc lv (.ref x :: st) h := by
  subst hn
  subst e
  intro p e9 R s m args below meth c H locs ls F hl hP hS
  exact lv_astore_n F.1 F.2.1 hd hi hl hb (mm_st1_map hs) (fun ls' hl' => k p e9 R s m args below meth c H locs ls' F hl' hP hS)
theorem MM.astore {i : Nat} {x y : Nat} (e : y = x) (hb : i < Y.2.2.1) (hs : mm_st1 lv i (.ref y) = lv') (hd : decode Y.2.1 pc = .ok (.astore i, 2)) (hn : pc + 2 = n) (k : MM V l Y d ck sk Z n lv' st h) : MM V l Y d ck sk Z pc lv (.ref x :: st) h := by
  subst hn
  subst e
  intro p e9 R s m args below meth c H locs ls F hl hP hS
  exact lv_astore F.1 F.2.1 hd hl hb (mm_st1_map hs) (fun ls' hl' => k p e9 R s m args below meth c H locs ls' F hl' hP hS)
theorem MM.wload_n {j : Fin 4} {i : Nat} {x : Option Nat} (hi : (j : Nat) = i) (hg : mm_lg lv i = some (va_rf x)) (hd : decode Y.2.1 pc = .ok (.aload_n j, 1)) (hn : pc + 1 = n) (k : MM V l Y d ck sk Z n lv (va_rf x :: st) h) : MM V l Y d ck sk Z pc lv (st) h := by
  subst hn
  intro p e R s m args below meth c H locs ls F hl hP hS
  exact (by
    have k9 := (k p e R s m args below meth c H locs ls F hl hP hS)
    have g9 := mm_lgE hl hg
    cases x with
    | none => exact lv_aload_nN F.1 F.2.1 hd hi g9 k9
    | some x => exact lv_aload_n F.1 F.2.1 hd hi g9 k9)
theorem MM.wstore_n {j : Fin 4} {i : Nat} {x y : Option Nat} (e : y = x) (hi : (j : Nat) = i) (hb : i < Y.2.2.1) (hs : mm_st1 lv i (va_rf y) = lv') (hd : decode Y.2.1 pc = .ok (.astore_n j, 1)) (hn : pc + 1 = n) (k : MM V l Y d ck sk Z n lv' st h) : MM V l Y d ck sk Z pc lv (va_rf x :: st) h := by
  subst hn
  subst e
  intro p e9 R s m args below meth c H locs ls F hl hP hS
  have q9 := mm_st1_map (V := V) hs
  cases y with
  | none => exact lv_astore_nN F.1 F.2.1 hd hi hl hb q9 (fun ls' hl' => k p e9 R s m args below meth c H locs ls' F hl' hP hS)
  | some x => exact lv_astore_n F.1 F.2.1 hd hi hl hb q9 (fun ls' hl' => k p e9 R s m args below meth c H locs ls' F hl' hP hS)
theorem MM.iinc {i k0 : Nat} {a : Int} {x y : Int32} (e : y = x + Int32.ofInt a) (hk : lv[k0]? = some (i, .int x)) (hb : i < Y.2.2.1) (hs : mm_st1 lv i (.int y) = lv') (hd : decode Y.2.1 pc = .ok (.iinc i a, 3)) (hn : pc + 3 = n) (k : MM V l Y d ck sk Z n lv' st h) : MM V l Y d ck sk Z pc lv st h := by
  subst hn
  intro p e9 R s m args below meth c H locs ls F hl hP hS
  exact lv_iinc F.1 F.2.1 hd hl (k := k0) (by rw [List.getElem?_map, hk]; rfl) e.symm hb (mm_st1_map hs) (fun ls' hl' => k p e9 R s m args below meth c H locs ls' F hl' hP hS)
theorem MM.iadd {x y : Int32} (hd : decode Y.2.1 pc = .ok (.iadd, 1)) (hn : pc + 1 = n) (k : MM V l Y d ck sk Z n lv (.int (x + y) :: st) h) : MM V l Y d ck sk Z pc lv (.int y :: .int x :: st) h := by
  subst hn
  intro p e R s m args below meth c H locs ls F hl hP hS
  exact lv_iadd F.1 F.2.1 hd (k p e R s m args below meth c H locs ls F hl hP hS)
theorem MM.isub {x y : Int32} (hd : decode Y.2.1 pc = .ok (.isub, 1)) (hn : pc + 1 = n) (k : MM V l Y d ck sk Z n lv (.int (x - y) :: st) h) : MM V l Y d ck sk Z pc lv (.int y :: .int x :: st) h := by
  subst hn
  intro p e R s m args below meth c H locs ls F hl hP hS
  exact lv_isub F.1 F.2.1 hd (k p e R s m args below meth c H locs ls F hl hP hS)
theorem MM.imul {x y : Int32} (hd : decode Y.2.1 pc = .ok (.imul, 1)) (hn : pc + 1 = n) (k : MM V l Y d ck sk Z n lv (.int (x * y) :: st) h) : MM V l Y d ck sk Z pc lv (.int y :: .int x :: st) h := by
  subst hn
  intro p e R s m args below meth c H locs ls F hl hP hS
  exact lv_imul F.1 F.2.1 hd (k p e R s m args below meth c H locs ls F hl hP hS)
theorem MM.iand {x y : Int32} (hd : decode Y.2.1 pc = .ok (.iand, 1)) (hn : pc + 1 = n) (k : MM V l Y d ck sk Z n lv (.int (x &&& y) :: st) h) : MM V l Y d ck sk Z pc lv (.int y :: .int x :: st) h := by
  subst hn
  intro p e R s m args below meth c H locs ls F hl hP hS
  exact lv_iand F.1 F.2.1 hd (k p e R s m args below meth c H locs ls F hl hP hS)
theorem MM.ior {x y : Int32} (hd : decode Y.2.1 pc = .ok (.ior, 1)) (hn : pc + 1 = n) (k : MM V l Y d ck sk Z n lv (.int (x ||| y) :: st) h) : MM V l Y d ck sk Z pc lv (.int y :: .int x :: st) h := by
  subst hn
  intro p e R s m args below meth c H locs ls F hl hP hS
  exact lv_ior F.1 F.2.1 hd (k p e R s m args below meth c H locs ls F hl hP hS)
theorem MM.ixor {x y : Int32} (hd : decode Y.2.1 pc = .ok (.ixor, 1)) (hn : pc + 1 = n) (k : MM V l Y d ck sk Z n lv (.int (x ^^^ y) :: st) h) : MM V l Y d ck sk Z pc lv (.int y :: .int x :: st) h := by
  subst hn
  intro p e R s m args below meth c H locs ls F hl hP hS
  exact lv_ixor F.1 F.2.1 hd (k p e R s m args below meth c H locs ls F hl hP hS)
theorem MM.idiv {x y : Int32} (hne : ¬ y = 0) (hd : decode Y.2.1 pc = .ok (.idiv, 1)) (hn : pc + 1 = n) (k : MM V l Y d ck sk Z n lv (.int (x / y) :: st) h) : MM V l Y d ck sk Z pc lv (.int y :: .int x :: st) h := by
  subst hn
  intro p e R s m args below meth c H locs ls F hl hP hS
  exact lv_idiv F.1 F.2.1 hd hne (k p e R s m args below meth c H locs ls F hl hP hS)
theorem MM.irem {x y : Int32} (hne : ¬ y = 0) (hd : decode Y.2.1 pc = .ok (.irem, 1)) (hn : pc + 1 = n) (k : MM V l Y d ck sk Z n lv (.int (x - x / y * y) :: st) h) : MM V l Y d ck sk Z pc lv (.int y :: .int x :: st) h := by
  subst hn
  intro p e R s m args below meth c H locs ls F hl hP hS
  exact lv_irem F.1 F.2.1 hd hne (k p e R s m args below meth c H locs ls F hl hP hS)
theorem MM.ladd {x y : Int64} (hd : decode Y.2.1 pc = .ok (.ladd, 1)) (hn : pc + 1 = n) (k : MM V l Y d ck sk Z n lv (.long (x + y) :: st) h) : MM V l Y d ck sk Z pc lv (.long y :: .long x :: st) h := by
  subst hn
  intro p e R s m args below meth c H locs ls F hl hP hS
  exact lv_ladd F.1 F.2.1 hd (k p e R s m args below meth c H locs ls F hl hP hS)
theorem MM.lsub {x y : Int64} (hd : decode Y.2.1 pc = .ok (.lsub, 1)) (hn : pc + 1 = n) (k : MM V l Y d ck sk Z n lv (.long (x - y) :: st) h) : MM V l Y d ck sk Z pc lv (.long y :: .long x :: st) h := by
  subst hn
  intro p e R s m args below meth c H locs ls F hl hP hS
  exact lv_lsub F.1 F.2.1 hd (k p e R s m args below meth c H locs ls F hl hP hS)
theorem MM.lmul {x y : Int64} (hd : decode Y.2.1 pc = .ok (.lmul, 1)) (hn : pc + 1 = n) (k : MM V l Y d ck sk Z n lv (.long (x * y) :: st) h) : MM V l Y d ck sk Z pc lv (.long y :: .long x :: st) h := by
  subst hn
  intro p e R s m args below meth c H locs ls F hl hP hS
  exact lv_lmul F.1 F.2.1 hd (k p e R s m args below meth c H locs ls F hl hP hS)
theorem MM.land {x y : Int64} (hd : decode Y.2.1 pc = .ok (.land, 1)) (hn : pc + 1 = n) (k : MM V l Y d ck sk Z n lv (.long (x &&& y) :: st) h) : MM V l Y d ck sk Z pc lv (.long y :: .long x :: st) h := by
  subst hn
  intro p e R s m args below meth c H locs ls F hl hP hS
  exact lv_land F.1 F.2.1 hd (k p e R s m args below meth c H locs ls F hl hP hS)
theorem MM.lor {x y : Int64} (hd : decode Y.2.1 pc = .ok (.lor, 1)) (hn : pc + 1 = n) (k : MM V l Y d ck sk Z n lv (.long (x ||| y) :: st) h) : MM V l Y d ck sk Z pc lv (.long y :: .long x :: st) h := by
  subst hn
  intro p e R s m args below meth c H locs ls F hl hP hS
  exact lv_lor F.1 F.2.1 hd (k p e R s m args below meth c H locs ls F hl hP hS)
theorem MM.ldiv {x y : Int64} (hne : ¬ y = 0) (hd : decode Y.2.1 pc = .ok (.ldiv, 1)) (hn : pc + 1 = n) (k : MM V l Y d ck sk Z n lv (.long (x / y) :: st) h) : MM V l Y d ck sk Z pc lv (.long y :: .long x :: st) h := by
  subst hn
  intro p e R s m args below meth c H locs ls F hl hP hS
  exact lv_ldiv F.1 F.2.1 hd hne (k p e R s m args below meth c H locs ls F hl hP hS)
theorem MM.lrem {x y : Int64} (hne : ¬ y = 0) (hd : decode Y.2.1 pc = .ok (.lrem, 1)) (hn : pc + 1 = n) (k : MM V l Y d ck sk Z n lv (.long (x - x / y * y) :: st) h) : MM V l Y d ck sk Z pc lv (.long y :: .long x :: st) h := by
  subst hn
  intro p e R s m args below meth c H locs ls F hl hP hS
  exact lv_lrem F.1 F.2.1 hd hne (k p e R s m args below meth c H locs ls F hl hP hS)
theorem MM.ineg {x : Int32} (hd : decode Y.2.1 pc = .ok (.ineg, 1)) (hn : pc + 1 = n) (k : MM V l Y d ck sk Z n lv (.int (-x) :: st) h) : MM V l Y d ck sk Z pc lv (.int x :: st) h := by
  subst hn
  intro p e R s m args below meth c H locs ls F hl hP hS
  exact lv_ineg F.1 F.2.1 hd (k p e R s m args below meth c H locs ls F hl hP hS)
theorem MM.ishl {x y : Int32} (hd : decode Y.2.1 pc = .ok (.ishl, 1)) (hn : pc + 1 = n) (k : MM V l Y d ck sk Z n lv (.int (x <<< (y &&& 31)) :: st) h) : MM V l Y d ck sk Z pc lv (.int y :: .int x :: st) h := by
  subst hn
  intro p e R s m args below meth c H locs ls F hl hP hS
  exact lv_ishl F.1 F.2.1 hd (k p e R s m args below meth c H locs ls F hl hP hS)
theorem MM.ishr {x y : Int32} (hd : decode Y.2.1 pc = .ok (.ishr, 1)) (hn : pc + 1 = n) (k : MM V l Y d ck sk Z n lv (.int (x >>> (y &&& 31)) :: st) h) : MM V l Y d ck sk Z pc lv (.int y :: .int x :: st) h := by
  subst hn
  intro p e R s m args below meth c H locs ls F hl hP hS
  exact lv_ishr F.1 F.2.1 hd (k p e R s m args below meth c H locs ls F hl hP hS)
theorem MM.iushr {x y : Int32} (hd : decode Y.2.1 pc = .ok (.iushr, 1)) (hn : pc + 1 = n) (k : MM V l Y d ck sk Z n lv (.int (x.toUInt32 >>> (y.toUInt32 &&& Int32.toUInt32 31)).toInt32 :: st) h) : MM V l Y d ck sk Z pc lv (.int y :: .int x :: st) h := by
  subst hn
  intro p e R s m args below meth c H locs ls F hl hP hS
  exact lv_iushr F.1 F.2.1 hd rfl (k p e R s m args below meth c H locs ls F hl hP hS)
theorem MM.lshl {x : Int64} {y : Int32} (hd : decode Y.2.1 pc = .ok (.lshl, 1)) (hn : pc + 1 = n) (k : MM V l Y d ck sk Z n lv (.long (x <<< (y.toInt64 &&& 63)) :: st) h) : MM V l Y d ck sk Z pc lv (.int y :: .long x :: st) h := by
  subst hn
  intro p e R s m args below meth c H locs ls F hl hP hS
  exact lv_lshl F.1 F.2.1 hd rfl (k p e R s m args below meth c H locs ls F hl hP hS)
theorem MM.lshr {x : Int64} {y : Int32} (hd : decode Y.2.1 pc = .ok (.lshr, 1)) (hn : pc + 1 = n) (k : MM V l Y d ck sk Z n lv (.long (x >>> (y.toInt64 &&& 63)) :: st) h) : MM V l Y d ck sk Z pc lv (.int y :: .long x :: st) h := by
  subst hn
  intro p e R s m args below meth c H locs ls F hl hP hS
  exact lv_lshr F.1 F.2.1 hd rfl (k p e R s m args below meth c H locs ls F hl hP hS)
theorem MM.lushr {x : Int64} {y : Int32} (hd : decode Y.2.1 pc = .ok (.lushr, 1)) (hn : pc + 1 = n) (k : MM V l Y d ck sk Z n lv (.long (x.toUInt64 >>> (y.toInt64.toUInt64 &&& Int64.toUInt64 63)).toInt64 :: st) h) : MM V l Y d ck sk Z pc lv (.int y :: .long x :: st) h := by
  subst hn
  intro p e R s m args below meth c H locs ls F hl hP hS
  exact lv_lushr F.1 F.2.1 hd rfl (k p e R s m args below meth c H locs ls F hl hP hS)
theorem MM.i2l {x : Int32} (hd : decode Y.2.1 pc = .ok (.i2l, 1)) (hn : pc + 1 = n) (k : MM V l Y d ck sk Z n lv (.long x.toInt64 :: st) h) : MM V l Y d ck sk Z pc lv (.int x :: st) h := by
  subst hn
  intro p e R s m args below meth c H locs ls F hl hP hS
  exact lv_i2l F.1 F.2.1 hd rfl (k p e R s m args below meth c H locs ls F hl hP hS)
theorem MM.l2i {x : Int64} (hd : decode Y.2.1 pc = .ok (.l2i, 1)) (hn : pc + 1 = n) (k : MM V l Y d ck sk Z n lv (.int x.toInt32 :: st) h) : MM V l Y d ck sk Z pc lv (.long x :: st) h := by
  subst hn
  intro p e R s m args below meth c H locs ls F hl hP hS
  exact lv_l2i F.1 F.2.1 hd rfl (k p e R s m args below meth c H locs ls F hl hP hS)
theorem MM.i2c {x : Int32} (hd : decode Y.2.1 pc = .ok (.i2c, 1)) (hn : pc + 1 = n) (k : MM V l Y d ck sk Z n lv (.int (x.toUInt32 % 65536).toInt32 :: st) h) : MM V l Y d ck sk Z pc lv (.int x :: st) h := by
  subst hn
  intro p e R s m args below meth c H locs ls F hl hP hS
  exact lv_i2c F.1 F.2.1 hd rfl (k p e R s m args below meth c H locs ls F hl hP hS)
theorem MM.lcmp {x y : Int64} (hd : decode Y.2.1 pc = .ok (.lcmp, 1)) (hn : pc + 1 = n) (k : MM V l Y d ck sk Z n lv (.int (lg_cmp x y) :: st) h) : MM V l Y d ck sk Z pc lv (.long y :: .long x :: st) h := by
  subst hn
  intro p e R s m args below meth c H locs ls F hl hP hS
  exact W.lcmp F.1 F.2.1 hd (k p e R s m args below meth c H locs ls F hl hP hS)
theorem MM.dup {v : Value} (hc : v.category = 1) (hd : decode Y.2.1 pc = .ok (.dup, 1)) (hn : pc + 1 = n) (k : MM V l Y d ck sk Z n lv (v :: v :: st) h) : MM V l Y d ck sk Z pc lv (v :: st) h := by
  subst hn
  intro p e R s m args below meth c H locs ls F hl hP hS
  exact lv_dup F.1 F.2.1 hd ((mm_rv_cat V v).trans hc) (k p e R s m args below meth c H locs ls F hl hP hS)
theorem MM.pop {v : Value} (hc : v.category = 1) (hd : decode Y.2.1 pc = .ok (.pop, 1)) (hn : pc + 1 = n) (k : MM V l Y d ck sk Z n lv (st) h) : MM V l Y d ck sk Z pc lv (v :: st) h := by
  subst hn
  intro p e R s m args below meth c H locs ls F hl hP hS
  exact lv_pop F.1 F.2.1 hd ((mm_rv_cat V v).trans hc) (k p e R s m args below meth c H locs ls F hl hP hS)
theorem MM.dup2 {v w : Value} (hc : v.category = 1) (hc2 : w.category = 1) (hd : decode Y.2.1 pc = .ok (.dup2, 1)) (hn : pc + 1 = n) (k : MM V l Y d ck sk Z n lv (v :: w :: v :: w :: st) h) : MM V l Y d ck sk Z pc lv (v :: w :: st) h := by
  subst hn
  intro p e R s m args below meth c H locs ls F hl hP hS
  exact lv_dup2_11 F.1 F.2.1 hd ((mm_rv_cat V v).trans hc) ((mm_rv_cat V w).trans hc2) (k p e R s m args below meth c H locs ls F hl hP hS)
theorem MM.dup_x1 {v w : Value} (hc : v.category = 1) (hc2 : w.category = 1) (hd : decode Y.2.1 pc = .ok (.dup_x1, 1)) (hn : pc + 1 = n) (k : MM V l Y d ck sk Z n lv (v :: w :: v :: st) h) : MM V l Y d ck sk Z pc lv (v :: w :: st) h := by
  subst hn
  intro p e R s m args below meth c H locs ls F hl hP hS
  exact lv_dup_x1 F.1 F.2.1 hd ((mm_rv_cat V v).trans hc) ((mm_rv_cat V w).trans hc2) (k p e R s m args below meth c H locs ls F hl hP hS)
theorem MM.if_eq {x : Int32} {off : Int} {tgt : Nat} (hd : decode Y.2.1 pc = .ok (.ifCond .eq off, 3)) (ht : (pc : Int) + off = (tgt : Int)) (hn : pc + 3 = n) (kt : x = 0 → MM V l Y d ck sk Z tgt lv st h) (kf : ¬ x = 0 → MM V l Y d ck sk Z n lv st h) : MM V l Y d ck sk Z pc lv (.int x :: st) h := by
  subst hn
  intro p e R s m args below meth c H locs ls F hl hP hS
  exact lv_if_eq F.1 F.2.1 hd ht (fun c9 => kt c9 p e R s m args below meth c H locs ls F hl hP hS) (fun c9 => kf c9 p e R s m args below meth c H locs ls F hl hP hS)
theorem MM.icmp_eq {x y : Int32} {off : Int} {tgt : Nat} (hd : decode Y.2.1 pc = .ok (.if_icmp .eq off, 3)) (ht : (pc : Int) + off = (tgt : Int)) (hn : pc + 3 = n) (kt : x = y → MM V l Y d ck sk Z tgt lv st h) (kf : ¬ x = y → MM V l Y d ck sk Z n lv st h) : MM V l Y d ck sk Z pc lv (.int y :: .int x :: st) h := by
  subst hn
  intro p e R s m args below meth c H locs ls F hl hP hS
  exact lv_icmp_eq F.1 F.2.1 hd ht (fun c9 => kt c9 p e R s m args below meth c H locs ls F hl hP hS) (fun c9 => kf c9 p e R s m args below meth c H locs ls F hl hP hS)
theorem MM.if_ne {x : Int32} {off : Int} {tgt : Nat} (hd : decode Y.2.1 pc = .ok (.ifCond .ne off, 3)) (ht : (pc : Int) + off = (tgt : Int)) (hn : pc + 3 = n) (kt : ¬ x = 0 → MM V l Y d ck sk Z tgt lv st h) (kf : x = 0 → MM V l Y d ck sk Z n lv st h) : MM V l Y d ck sk Z pc lv (.int x :: st) h := by
  subst hn
  intro p e R s m args below meth c H locs ls F hl hP hS
  exact lv_if_ne F.1 F.2.1 hd ht (fun c9 => kt c9 p e R s m args below meth c H locs ls F hl hP hS) (fun c9 => kf c9 p e R s m args below meth c H locs ls F hl hP hS)
theorem MM.icmp_ne {x y : Int32} {off : Int} {tgt : Nat} (hd : decode Y.2.1 pc = .ok (.if_icmp .ne off, 3)) (ht : (pc : Int) + off = (tgt : Int)) (hn : pc + 3 = n) (kt : ¬ x = y → MM V l Y d ck sk Z tgt lv st h) (kf : x = y → MM V l Y d ck sk Z n lv st h) : MM V l Y d ck sk Z pc lv (.int y :: .int x :: st) h := by
  subst hn
  intro p e R s m args below meth c H locs ls F hl hP hS
  exact lv_icmp_ne F.1 F.2.1 hd ht (fun c9 => kt c9 p e R s m args below meth c H locs ls F hl hP hS) (fun c9 => kf c9 p e R s m args below meth c H locs ls F hl hP hS)
theorem MM.if_lt {x : Int32} {off : Int} {tgt : Nat} (hd : decode Y.2.1 pc = .ok (.ifCond .lt off, 3)) (ht : (pc : Int) + off = (tgt : Int)) (hn : pc + 3 = n) (kt : x < 0 → MM V l Y d ck sk Z tgt lv st h) (kf : ¬ x < 0 → MM V l Y d ck sk Z n lv st h) : MM V l Y d ck sk Z pc lv (.int x :: st) h := by
  subst hn
  intro p e R s m args below meth c H locs ls F hl hP hS
  exact lv_if_lt F.1 F.2.1 hd ht (fun c9 => kt c9 p e R s m args below meth c H locs ls F hl hP hS) (fun c9 => kf c9 p e R s m args below meth c H locs ls F hl hP hS)
theorem MM.icmp_lt {x y : Int32} {off : Int} {tgt : Nat} (hd : decode Y.2.1 pc = .ok (.if_icmp .lt off, 3)) (ht : (pc : Int) + off = (tgt : Int)) (hn : pc + 3 = n) (kt : x < y → MM V l Y d ck sk Z tgt lv st h) (kf : ¬ x < y → MM V l Y d ck sk Z n lv st h) : MM V l Y d ck sk Z pc lv (.int y :: .int x :: st) h := by
  subst hn
  intro p e R s m args below meth c H locs ls F hl hP hS
  exact lv_icmp_lt F.1 F.2.1 hd ht (fun c9 => kt c9 p e R s m args below meth c H locs ls F hl hP hS) (fun c9 => kf c9 p e R s m args below meth c H locs ls F hl hP hS)
theorem MM.if_ge {x : Int32} {off : Int} {tgt : Nat} (hd : decode Y.2.1 pc = .ok (.ifCond .ge off, 3)) (ht : (pc : Int) + off = (tgt : Int)) (hn : pc + 3 = n) (kt : 0 ≤ x → MM V l Y d ck sk Z tgt lv st h) (kf : ¬ 0 ≤ x → MM V l Y d ck sk Z n lv st h) : MM V l Y d ck sk Z pc lv (.int x :: st) h := by
  subst hn
  intro p e R s m args below meth c H locs ls F hl hP hS
  exact lv_if_ge F.1 F.2.1 hd ht (fun c9 => kt c9 p e R s m args below meth c H locs ls F hl hP hS) (fun c9 => kf c9 p e R s m args below meth c H locs ls F hl hP hS)
theorem MM.icmp_ge {x y : Int32} {off : Int} {tgt : Nat} (hd : decode Y.2.1 pc = .ok (.if_icmp .ge off, 3)) (ht : (pc : Int) + off = (tgt : Int)) (hn : pc + 3 = n) (kt : y ≤ x → MM V l Y d ck sk Z tgt lv st h) (kf : ¬ y ≤ x → MM V l Y d ck sk Z n lv st h) : MM V l Y d ck sk Z pc lv (.int y :: .int x :: st) h := by
  subst hn
  intro p e R s m args below meth c H locs ls F hl hP hS
  exact lv_icmp_ge F.1 F.2.1 hd ht (fun c9 => kt c9 p e R s m args below meth c H locs ls F hl hP hS) (fun c9 => kf c9 p e R s m args below meth c H locs ls F hl hP hS)
theorem MM.if_gt {x : Int32} {off : Int} {tgt : Nat} (hd : decode Y.2.1 pc = .ok (.ifCond .gt off, 3)) (ht : (pc : Int) + off = (tgt : Int)) (hn : pc + 3 = n) (kt : 0 < x → MM V l Y d ck sk Z tgt lv st h) (kf : ¬ 0 < x → MM V l Y d ck sk Z n lv st h) : MM V l Y d ck sk Z pc lv (.int x :: st) h := by
  subst hn
  intro p e R s m args below meth c H locs ls F hl hP hS
  exact lv_if_gt F.1 F.2.1 hd ht (fun c9 => kt c9 p e R s m args below meth c H locs ls F hl hP hS) (fun c9 => kf c9 p e R s m args below meth c H locs ls F hl hP hS)
theorem MM.icmp_gt {x y : Int32} {off : Int} {tgt : Nat} (hd : decode Y.2.1 pc = .ok (.if_icmp .gt off, 3)) (ht : (pc : Int) + off = (tgt : Int)) (hn : pc + 3 = n) (kt : y < x → MM V l Y d ck sk Z tgt lv st h) (kf : ¬ y < x → MM V l Y d ck sk Z n lv st h) : MM V l Y d ck sk Z pc lv (.int y :: .int x :: st) h := by
  subst hn
  intro p e R s m args below meth c H locs ls F hl hP hS
  exact lv_icmp_gt F.1 F.2.1 hd ht (fun c9 => kt c9 p e R s m args below meth c H locs ls F hl hP hS) (fun c9 => kf c9 p e R s m args below meth c H locs ls F hl hP hS)
theorem MM.if_le {x : Int32} {off : Int} {tgt : Nat} (hd : decode Y.2.1 pc = .ok (.ifCond .le off, 3)) (ht : (pc : Int) + off = (tgt : Int)) (hn : pc + 3 = n) (kt : x ≤ 0 → MM V l Y d ck sk Z tgt lv st h) (kf : ¬ x ≤ 0 → MM V l Y d ck sk Z n lv st h) : MM V l Y d ck sk Z pc lv (.int x :: st) h := by
  subst hn
  intro p e R s m args below meth c H locs ls F hl hP hS
  exact lv_if_le F.1 F.2.1 hd ht (fun c9 => kt c9 p e R s m args below meth c H locs ls F hl hP hS) (fun c9 => kf c9 p e R s m args below meth c H locs ls F hl hP hS)
theorem MM.icmp_le {x y : Int32} {off : Int} {tgt : Nat} (hd : decode Y.2.1 pc = .ok (.if_icmp .le off, 3)) (ht : (pc : Int) + off = (tgt : Int)) (hn : pc + 3 = n) (kt : x ≤ y → MM V l Y d ck sk Z tgt lv st h) (kf : ¬ x ≤ y → MM V l Y d ck sk Z n lv st h) : MM V l Y d ck sk Z pc lv (.int y :: .int x :: st) h := by
  subst hn
  intro p e R s m args below meth c H locs ls F hl hP hS
  exact lv_icmp_le F.1 F.2.1 hd ht (fun c9 => kt c9 p e R s m args below meth c H locs ls F hl hP hS) (fun c9 => kf c9 p e R s m args below meth c H locs ls F hl hP hS)
theorem MM.acmp_eq {x y : Option Nat} (hx : ∀ i, x = some i → i < 28) (hy : ∀ i, y = some i → i < 28) {off : Int} {tgt : Nat} (hd : decode Y.2.1 pc = .ok (.if_acmp .eq off, 3)) (ht : (pc : Int) + off = (tgt : Int)) (hn : pc + 3 = n) (kt : x = y → MM V l Y d ck sk Z tgt lv st h) (kf : ¬ x = y → MM V l Y d ck sk Z n lv st h) : MM V l Y d ck sk Z pc lv (va_rf y :: va_rf x :: st) h := by
  subst hn
  intro p e R s m args below meth c H locs ls F hl hP hS
  have inj : x.map V.1 = y.map V.1 → x = y := by
    intro q
    cases x <;> cases y <;> simp at q ⊢
    exact F.2.2.2.2.2.2.2.1.1.2.1 _ _ (hx _ rfl) (hy _ rfl) q
  show W p l e R s m args below meth c H locs ck sk (Z below args s) (F0 m pc ls (mm_rv V (va_rf y) :: mm_rv V (va_rf x) :: st.map (mm_rv V)))
  rw [mm_rv_rf, mm_rv_rf]
  exact lv_acmp_eq F.1 F.2.1 hd ht (fun c9 => kt (inj c9) p e R s m args below meth c H locs ls F hl hP hS) (fun c9 => kf (fun q => c9 (by rw [q])) p e R s m args below meth c H locs ls F hl hP hS)
theorem MM.acmp_ne {x y : Option Nat} (hx : ∀ i, x = some i → i < 28) (hy : ∀ i, y = some i → i < 28) {off : Int} {tgt : Nat} (hd : decode Y.2.1 pc = .ok (.if_acmp .ne off, 3)) (ht : (pc : Int) + off = (tgt : Int)) (hn : pc + 3 = n) (kt : ¬ x = y → MM V l Y d ck sk Z tgt lv st h) (kf : x = y → MM V l Y d ck sk Z n lv st h) : MM V l Y d ck sk Z pc lv (va_rf y :: va_rf x :: st) h := by
  subst hn
  intro p e R s m args below meth c H locs ls F hl hP hS
  have inj : x.map V.1 = y.map V.1 → x = y := by
    intro q
    cases x <;> cases y <;> simp at q ⊢
    exact F.2.2.2.2.2.2.2.1.1.2.1 _ _ (hx _ rfl) (hy _ rfl) q
  show W p l e R s m args below meth c H locs ck sk (Z below args s) (F0 m pc ls (mm_rv V (va_rf y) :: mm_rv V (va_rf x) :: st.map (mm_rv V)))
  rw [mm_rv_rf, mm_rv_rf]
  exact lv_acmp_ne F.1 F.2.1 hd ht (fun c9 => kt (fun q => c9 (by rw [q])) p e R s m args below meth c H locs ls F hl hP hS) (fun c9 => kf (inj c9) p e R s m args below meth c H locs ls F hl hP hS)
theorem MM.ifnull {x : Option Nat} {off : Int} {tgt : Nat} (hd : decode Y.2.1 pc = .ok (.ifnull off, 3)) (ht : (pc : Int) + off = (tgt : Int)) (hn : pc + 3 = n) (kt : x = none → MM V l Y d ck sk Z tgt lv st h) (kf : ¬ x = none → MM V l Y d ck sk Z n lv st h) : MM V l Y d ck sk Z pc lv (va_rf x :: st) h := by
  subst hn
  intro p e R s m args below meth c H locs ls F hl hP hS
  cases x with
  | none => exact lv_ifnullN F.1 F.2.1 hd ht (kt rfl p e R s m args below meth c H locs ls F hl hP hS)
  | some x => exact lv_ifnull F.1 F.2.1 hd (kf (by simp) p e R s m args below meth c H locs ls F hl hP hS)
theorem MM.goto {off : Int} {tgt : Nat} (hd : decode Y.2.1 pc = .ok (.goto off, 3)) (ht : (pc : Int) + off = (tgt : Int)) (k : MM V l Y d ck sk Z tgt lv st h) : MM V l Y d ck sk Z pc lv st h := by
  intro p e R s m args below meth c H locs ls F hl hP hS
  exact lv_goto F.1 F.2.1 hd ht (k p e R s m args below meth c H locs ls F hl hP hS)
end MMR
