/-! THE JUDGEMENT ML: MM with more room in hand (C cells, S slots), with what a throw wants of the heap (mx_T), and something of the method's code (Kc); its rules are MM's, word by word -/
def NSE : String := "java/util/NoSuchElementException"
def mx_nm : List String := ["java/lang/RuntimeException", "java/lang/Exception"]
/-- the words of the throw that a warmed machine keeps, but not as a good word -/
def mx_ng : List Cond := (vx_at0 RX11 139 NSE mx_nm).filter (fun w => !goodWord w)
def mx_T (V : mm_V) (s : State) : Prop := vx_Zq Bundle.tN "UNASSIGNED_STACK" Bundle.steD (mm_fr V) s s.heap ∧ vx_Zq Bundle.tN "SUPPRESSED_SENTINEL" Bundle.listD (mm_fr V) s s.heap ∧ ∀ w ∈ mx_ng, va_Nw w s
def mx_F (V : mm_V) (Y : mm_Y) (d C S ck sk : Nat) (Kc : Code → Prop) (p : Program) (R : Room) (s : State) (m : MethodId) (args : Array Value) (meth : Method) (c : Code) : Prop := mm_F V Y d C S p R s m args meth c ∧ mx_T V s ∧ (ck ≤ C ∧ sk ≤ S) ∧ Kc c
theorem mx_dn {V : mm_V} {Y : mm_Y} {d C S ck sk : Nat} {Kc : Code → Prop} {p : Program} {R : Room} {s : State} {m : MethodId} {args : Array Value} {meth : Method} {c : Code} (F : mx_F V Y d C S ck sk Kc p R s m args meth c) : mm_F V Y d ck sk p R s m args meth c := by
  obtain ⟨⟨h1, h2, h3, h4, h5, h6, h7, h8, h9, h10, h11⟩, -, ⟨k1, k2⟩, -⟩ := F
  exact ⟨h1, h2, h3, h4, h5, h6, h7, h8, h9, Nat.le_trans k1 h10, Nat.le_trans k2 h11⟩
def ML (V : mm_V) (l : Launch) (Y : mm_Y) (d C S : Nat) (Kc : Code → Prop) (ck sk : Nat) (Z : List Frame → Array Value → State → State → Prop) (pc : Nat) (lv : List (Nat × Value)) (st : List Value) (h : mm_H) : Prop :=
  ∀ (p : Program) (e : Env) (R : Room) (s : State) (m : MethodId) (args : Array Value) (below : List Frame) (meth : Method) (c : Code) (H : Heap) (locs : List Loc) (ls : Array Slot),
    mx_F V Y d C S ck sk Kc p R s m args meth c → lv_has ls Y.2.2.1 (lv.map (mm_lp V)) → mm_P V h H → va_S (mm_fr V) s.heap H locs →
    W p l e R s m args below meth c H locs ck sk (Z below args s) (F0 m pc ls (st.map (mm_rv V)))
section MLR
variable {V : mm_V} {l : Launch} {Y : mm_Y} {d C S ck sk : Nat} {Kc : Code → Prop} {Z : List Frame → Array Value → State → State → Prop} {pc n : Nat} {lv lv' : List (Nat × Value)} {st : List Value} {h h' : mm_H} {Q : Option Value → mm_H → Prop} {v : Value}
theorem ML.sub (ks : List Nat) (hk : lv_pick lv ks = lv') (k : ML V l Y d C S Kc ck sk Z pc lv' st h) : ML V l Y d C S Kc ck sk Z pc lv st h := by
  intro p e R s m args below meth c H locs ls F hl hP hS
  refine k p e R s m args below meth c H locs ls F (lv_sub hl ks ?_) hP hS
  subst hk
  simp only [lv_pick, List.getElem?_map, List.map_filterMap]
theorem ML.iconst {i : Int} {v : Int32} (hv : Int32.ofInt i = v) (hd : decode Y.2.1 pc = .ok (.iconst i, 1)) (hn : pc + 1 = n) (k : ML V l Y d C S Kc ck sk Z n lv (.int v :: st) h) : ML V l Y d C S Kc ck sk Z pc lv (st) h := by
  subst hn
  intro p e R s m args below meth c H locs ls F hl hP hS
  exact lv_iconst (mx_dn F).1 (mx_dn F).2.1 hd hv (k p e R s m args below meth c H locs ls F hl hP hS)
theorem ML.bipush {i : Int} {v : Int32} (hv : (Int8.ofInt i).toInt32 = v) (hd : decode Y.2.1 pc = .ok (.bipush i, 2)) (hn : pc + 2 = n) (k : ML V l Y d C S Kc ck sk Z n lv (.int v :: st) h) : ML V l Y d C S Kc ck sk Z pc lv (st) h := by
  subst hn
  intro p e R s m args below meth c H locs ls F hl hP hS
  exact lv_bipush (mx_dn F).1 (mx_dn F).2.1 hd hv (k p e R s m args below meth c H locs ls F hl hP hS)
theorem ML.sipush {i : Int} {v : Int32} (hv : (Int16.ofInt i).toInt32 = v) (hd : decode Y.2.1 pc = .ok (.sipush i, 3)) (hn : pc + 3 = n) (k : ML V l Y d C S Kc ck sk Z n lv (.int v :: st) h) : ML V l Y d C S Kc ck sk Z pc lv (st) h := by
  subst hn
  intro p e R s m args below meth c H locs ls F hl hP hS
  exact lv_sipush (mx_dn F).1 (mx_dn F).2.1 hd hv (k p e R s m args below meth c H locs ls F hl hP hS)
theorem ML.iload_n {j : Fin 4} {i : Nat} {x : Int32} (hi : (j : Nat) = i) (hg : mm_lg lv i = some (.int x)) (hd : decode Y.2.1 pc = .ok (.iload_n j, 1)) (hn : pc + 1 = n) (k : ML V l Y d C S Kc ck sk Z n lv (.int x :: st) h) : ML V l Y d C S Kc ck sk Z pc lv (st) h := by
  subst hn
  intro p e R s m args below meth c H locs ls F hl hP hS
  exact lv_iload_n (mx_dn F).1 (mx_dn F).2.1 hd hi (mm_lgE hl hg) (k p e R s m args below meth c H locs ls F hl hP hS)
theorem ML.iload {i : Nat} {x : Int32} (hg : mm_lg lv i = some (.int x)) (hd : decode Y.2.1 pc = .ok (.iload i, 2)) (hn : pc + 2 = n) (k : ML V l Y d C S Kc ck sk Z n lv (.int x :: st) h) : ML V l Y d C S Kc ck sk Z pc lv (st) h := by
  subst hn
  intro p e R s m args below meth c H locs ls F hl hP hS
  exact lv_iload (mx_dn F).1 (mx_dn F).2.1 hd (mm_lgE hl hg) (k p e R s m args below meth c H locs ls F hl hP hS)
theorem ML.istore {i : Nat} {x y : Int32} (e : y = x) (hb : i < Y.2.2.1) (hs : mm_st1 lv i (.int y) = lv') (hd : decode Y.2.1 pc = .ok (.istore i, 2)) (hn : pc + 2 = n) (k : ML V l Y d C S Kc ck sk Z n lv' st h) : ML V l Y d C S Kc ck sk Z pc lv (.int x :: st) h := by
  subst hn
  subst e
  intro p e9 R s m args below meth c H locs ls F hl hP hS
  exact lv_istore (mx_dn F).1 (mx_dn F).2.1 hd hl hb (mm_st1_map hs) (fun ls' hl' => k p e9 R s m args below meth c H locs ls' F hl' hP hS)
theorem ML.aload_n {j : Fin 4} {i : Nat} {x : Nat} (hi : (j : Nat) = i) (hg : mm_lg lv i = some (.ref x)) (hd : decode Y.2.1 pc = .ok (.aload_n j, 1)) (hn : pc + 1 = n) (k : ML V l Y d C S Kc ck sk Z n lv (.ref x :: st) h) : ML V l Y d C S Kc ck sk Z pc lv (st) h := by
  subst hn
  intro p e R s m args below meth c H locs ls F hl hP hS
  exact lv_aload_n (mx_dn F).1 (mx_dn F).2.1 hd hi (mm_lgE hl hg) (k p e R s m args below meth c H locs ls F hl hP hS)
theorem ML.aload {i : Nat} {x : Nat} (hg : mm_lg lv i = some (.ref x)) (hd : decode Y.2.1 pc = .ok (.aload i, 2)) (hn : pc + 2 = n) (k : ML V l Y d C S Kc ck sk Z n lv (.ref x :: st) h) : ML V l Y d C S Kc ck sk Z pc lv (st) h := by
  subst hn
  intro p e R s m args below meth c H locs ls F hl hP hS
  exact lv_aload (mx_dn F).1 (mx_dn F).2.1 hd (mm_lgE hl hg) (k p e R s m args below meth c H locs ls F hl hP hS)
theorem ML.iinc {i k0 : Nat} {a : Int} {x y : Int32} (e : y = x + Int32.ofInt a) (hk : lv[k0]? = some (i, .int x)) (hb : i < Y.2.2.1) (hs : mm_st1 lv i (.int y) = lv') (hd : decode Y.2.1 pc = .ok (.iinc i a, 3)) (hn : pc + 3 = n) (k : ML V l Y d C S Kc ck sk Z n lv' st h) : ML V l Y d C S Kc ck sk Z pc lv st h := by
  subst hn
  intro p e9 R s m args below meth c H locs ls F hl hP hS
  exact lv_iinc (mx_dn F).1 (mx_dn F).2.1 hd hl (k := k0) (by rw [List.getElem?_map, hk]; rfl) e.symm hb (mm_st1_map hs) (fun ls' hl' => k p e9 R s m args below meth c H locs ls' F hl' hP hS)
theorem ML.iadd {x y : Int32} (hd : decode Y.2.1 pc = .ok (.iadd, 1)) (hn : pc + 1 = n) (k : ML V l Y d C S Kc ck sk Z n lv (.int (x + y) :: st) h) : ML V l Y d C S Kc ck sk Z pc lv (.int y :: .int x :: st) h := by
  subst hn
  intro p e R s m args below meth c H locs ls F hl hP hS
  exact lv_iadd (mx_dn F).1 (mx_dn F).2.1 hd (k p e R s m args below meth c H locs ls F hl hP hS)
theorem ML.isub {x y : Int32} (hd : decode Y.2.1 pc = .ok (.isub, 1)) (hn : pc + 1 = n) (k : ML V l Y d C S Kc ck sk Z n lv (.int (x - y) :: st) h) : ML V l Y d C S Kc ck sk Z pc lv (.int y :: .int x :: st) h := by
  subst hn
  intro p e R s m args below meth c H locs ls F hl hP hS
  exact lv_isub (mx_dn F).1 (mx_dn F).2.1 hd (k p e R s m args below meth c H locs ls F hl hP hS)
theorem ML.iand {x y : Int32} (hd : decode Y.2.1 pc = .ok (.iand, 1)) (hn : pc + 1 = n) (k : ML V l Y d C S Kc ck sk Z n lv (.int (x &&& y) :: st) h) : ML V l Y d C S Kc ck sk Z pc lv (.int y :: .int x :: st) h := by
  subst hn
  intro p e R s m args below meth c H locs ls F hl hP hS
  exact lv_iand (mx_dn F).1 (mx_dn F).2.1 hd (k p e R s m args below meth c H locs ls F hl hP hS)
theorem ML.i2l {x : Int32} (hd : decode Y.2.1 pc = .ok (.i2l, 1)) (hn : pc + 1 = n) (k : ML V l Y d C S Kc ck sk Z n lv (.long x.toInt64 :: st) h) : ML V l Y d C S Kc ck sk Z pc lv (.int x :: st) h := by
  subst hn
  intro p e R s m args below meth c H locs ls F hl hP hS
  exact lv_i2l (mx_dn F).1 (mx_dn F).2.1 hd rfl (k p e R s m args below meth c H locs ls F hl hP hS)
theorem ML.lshl {x : Int64} {y : Int32} (hd : decode Y.2.1 pc = .ok (.lshl, 1)) (hn : pc + 1 = n) (k : ML V l Y d C S Kc ck sk Z n lv (.long (x <<< (y.toInt64 &&& 63)) :: st) h) : ML V l Y d C S Kc ck sk Z pc lv (.int y :: .long x :: st) h := by
  subst hn
  intro p e R s m args below meth c H locs ls F hl hP hS
  exact lv_lshl (mx_dn F).1 (mx_dn F).2.1 hd rfl (k p e R s m args below meth c H locs ls F hl hP hS)
theorem ML.land {x y : Int64} (hd : decode Y.2.1 pc = .ok (.land, 1)) (hn : pc + 1 = n) (k : ML V l Y d C S Kc ck sk Z n lv (.long (x &&& y) :: st) h) : ML V l Y d C S Kc ck sk Z pc lv (.long y :: .long x :: st) h := by
  subst hn
  intro p e R s m args below meth c H locs ls F hl hP hS
  exact lv_land (mx_dn F).1 (mx_dn F).2.1 hd (k p e R s m args below meth c H locs ls F hl hP hS)
theorem ML.lor {x y : Int64} (hd : decode Y.2.1 pc = .ok (.lor, 1)) (hn : pc + 1 = n) (k : ML V l Y d C S Kc ck sk Z n lv (.long (x ||| y) :: st) h) : ML V l Y d C S Kc ck sk Z pc lv (.long y :: .long x :: st) h := by
  subst hn
  intro p e R s m args below meth c H locs ls F hl hP hS
  exact lv_lor (mx_dn F).1 (mx_dn F).2.1 hd (k p e R s m args below meth c H locs ls F hl hP hS)
theorem ML.ldc2 {i : Nat} {v : Int64} (hc : Cond.constantLong Y.1.cls i v ∈ mm_gw) (hd : decode Y.2.1 pc = .ok (.ldc2_w i, 3)) (hn : pc + 3 = n) (k : ML V l Y d C S Kc ck sk Z n lv (.long v :: st) h) : ML V l Y d C S Kc ck sk Z pc lv (st) h := by
  subst hn
  intro p e R s m args below meth c H locs ls F hl hP hS
  exact lv_ldc2 (mx_dn F).1 (mx_dn F).2.1 (mx_dn F).2.2.2.2.2.1 ((mx_dn F).2.2.2.2.2.2.1 _ hc) hd (k p e R s m args below meth c H locs ls F hl hP hS)
theorem ML.lcmp {x y : Int64} (hd : decode Y.2.1 pc = .ok (.lcmp, 1)) (hn : pc + 1 = n) (k : ML V l Y d C S Kc ck sk Z n lv (.int (lg_cmp x y) :: st) h) : ML V l Y d C S Kc ck sk Z pc lv (.long y :: .long x :: st) h := by
  subst hn
  intro p e R s m args below meth c H locs ls F hl hP hS
  exact W.lcmp (mx_dn F).1 (mx_dn F).2.1 hd (k p e R s m args below meth c H locs ls F hl hP hS)
theorem ML.if_eq {x : Int32} {off : Int} {tgt : Nat} (hd : decode Y.2.1 pc = .ok (.ifCond .eq off, 3)) (ht : (pc : Int) + off = (tgt : Int)) (hn : pc + 3 = n) (kt : x = 0 → ML V l Y d C S Kc ck sk Z tgt lv st h) (kf : ¬ x = 0 → ML V l Y d C S Kc ck sk Z n lv st h) : ML V l Y d C S Kc ck sk Z pc lv (.int x :: st) h := by
  subst hn
  intro p e R s m args below meth c H locs ls F hl hP hS
  exact lv_if_eq (mx_dn F).1 (mx_dn F).2.1 hd ht (fun c9 => kt c9 p e R s m args below meth c H locs ls F hl hP hS) (fun c9 => kf c9 p e R s m args below meth c H locs ls F hl hP hS)
theorem ML.if_ne {x : Int32} {off : Int} {tgt : Nat} (hd : decode Y.2.1 pc = .ok (.ifCond .ne off, 3)) (ht : (pc : Int) + off = (tgt : Int)) (hn : pc + 3 = n) (kt : ¬ x = 0 → ML V l Y d C S Kc ck sk Z tgt lv st h) (kf : x = 0 → ML V l Y d C S Kc ck sk Z n lv st h) : ML V l Y d C S Kc ck sk Z pc lv (.int x :: st) h := by
  subst hn
  intro p e R s m args below meth c H locs ls F hl hP hS
  exact lv_if_ne (mx_dn F).1 (mx_dn F).2.1 hd ht (fun c9 => kt c9 p e R s m args below meth c H locs ls F hl hP hS) (fun c9 => kf c9 p e R s m args below meth c H locs ls F hl hP hS)
theorem ML.if_lt {x : Int32} {off : Int} {tgt : Nat} (hd : decode Y.2.1 pc = .ok (.ifCond .lt off, 3)) (ht : (pc : Int) + off = (tgt : Int)) (hn : pc + 3 = n) (kt : x < 0 → ML V l Y d C S Kc ck sk Z tgt lv st h) (kf : ¬ x < 0 → ML V l Y d C S Kc ck sk Z n lv st h) : ML V l Y d C S Kc ck sk Z pc lv (.int x :: st) h := by
  subst hn
  intro p e R s m args below meth c H locs ls F hl hP hS
  exact lv_if_lt (mx_dn F).1 (mx_dn F).2.1 hd ht (fun c9 => kt c9 p e R s m args below meth c H locs ls F hl hP hS) (fun c9 => kf c9 p e R s m args below meth c H locs ls F hl hP hS)
theorem ML.if_ge {x : Int32} {off : Int} {tgt : Nat} (hd : decode Y.2.1 pc = .ok (.ifCond .ge off, 3)) (ht : (pc : Int) + off = (tgt : Int)) (hn : pc + 3 = n) (kt : 0 ≤ x → ML V l Y d C S Kc ck sk Z tgt lv st h) (kf : ¬ 0 ≤ x → ML V l Y d C S Kc ck sk Z n lv st h) : ML V l Y d C S Kc ck sk Z pc lv (.int x :: st) h := by
  subst hn
  intro p e R s m args below meth c H locs ls F hl hP hS
  exact lv_if_ge (mx_dn F).1 (mx_dn F).2.1 hd ht (fun c9 => kt c9 p e R s m args below meth c H locs ls F hl hP hS) (fun c9 => kf c9 p e R s m args below meth c H locs ls F hl hP hS)
theorem ML.if_gt {x : Int32} {off : Int} {tgt : Nat} (hd : decode Y.2.1 pc = .ok (.ifCond .gt off, 3)) (ht : (pc : Int) + off = (tgt : Int)) (hn : pc + 3 = n) (kt : 0 < x → ML V l Y d C S Kc ck sk Z tgt lv st h) (kf : ¬ 0 < x → ML V l Y d C S Kc ck sk Z n lv st h) : ML V l Y d C S Kc ck sk Z pc lv (.int x :: st) h := by
  subst hn
  intro p e R s m args below meth c H locs ls F hl hP hS
  exact lv_if_gt (mx_dn F).1 (mx_dn F).2.1 hd ht (fun c9 => kt c9 p e R s m args below meth c H locs ls F hl hP hS) (fun c9 => kf c9 p e R s m args below meth c H locs ls F hl hP hS)
theorem ML.if_le {x : Int32} {off : Int} {tgt : Nat} (hd : decode Y.2.1 pc = .ok (.ifCond .le off, 3)) (ht : (pc : Int) + off = (tgt : Int)) (hn : pc + 3 = n) (kt : x ≤ 0 → ML V l Y d C S Kc ck sk Z tgt lv st h) (kf : ¬ x ≤ 0 → ML V l Y d C S Kc ck sk Z n lv st h) : ML V l Y d C S Kc ck sk Z pc lv (.int x :: st) h := by
  subst hn
  intro p e R s m args below meth c H locs ls F hl hP hS
  exact lv_if_le (mx_dn F).1 (mx_dn F).2.1 hd ht (fun c9 => kt c9 p e R s m args below meth c H locs ls F hl hP hS) (fun c9 => kf c9 p e R s m args below meth c H locs ls F hl hP hS)
theorem ML.icmp_eq {x y : Int32} {off : Int} {tgt : Nat} (hd : decode Y.2.1 pc = .ok (.if_icmp .eq off, 3)) (ht : (pc : Int) + off = (tgt : Int)) (hn : pc + 3 = n) (kt : x = y → ML V l Y d C S Kc ck sk Z tgt lv st h) (kf : ¬ x = y → ML V l Y d C S Kc ck sk Z n lv st h) : ML V l Y d C S Kc ck sk Z pc lv (.int y :: .int x :: st) h := by
  subst hn
  intro p e R s m args below meth c H locs ls F hl hP hS
  exact lv_icmp_eq (mx_dn F).1 (mx_dn F).2.1 hd ht (fun c9 => kt c9 p e R s m args below meth c H locs ls F hl hP hS) (fun c9 => kf c9 p e R s m args below meth c H locs ls F hl hP hS)
theorem ML.icmp_ne {x y : Int32} {off : Int} {tgt : Nat} (hd : decode Y.2.1 pc = .ok (.if_icmp .ne off, 3)) (ht : (pc : Int) + off = (tgt : Int)) (hn : pc + 3 = n) (kt : ¬ x = y → ML V l Y d C S Kc ck sk Z tgt lv st h) (kf : x = y → ML V l Y d C S Kc ck sk Z n lv st h) : ML V l Y d C S Kc ck sk Z pc lv (.int y :: .int x :: st) h := by
  subst hn
  intro p e R s m args below meth c H locs ls F hl hP hS
  exact lv_icmp_ne (mx_dn F).1 (mx_dn F).2.1 hd ht (fun c9 => kt c9 p e R s m args below meth c H locs ls F hl hP hS) (fun c9 => kf c9 p e R s m args below meth c H locs ls F hl hP hS)
theorem ML.icmp_lt {x y : Int32} {off : Int} {tgt : Nat} (hd : decode Y.2.1 pc = .ok (.if_icmp .lt off, 3)) (ht : (pc : Int) + off = (tgt : Int)) (hn : pc + 3 = n) (kt : x < y → ML V l Y d C S Kc ck sk Z tgt lv st h) (kf : ¬ x < y → ML V l Y d C S Kc ck sk Z n lv st h) : ML V l Y d C S Kc ck sk Z pc lv (.int y :: .int x :: st) h := by
  subst hn
  intro p e R s m args below meth c H locs ls F hl hP hS
  exact lv_icmp_lt (mx_dn F).1 (mx_dn F).2.1 hd ht (fun c9 => kt c9 p e R s m args below meth c H locs ls F hl hP hS) (fun c9 => kf c9 p e R s m args below meth c H locs ls F hl hP hS)
theorem ML.icmp_ge {x y : Int32} {off : Int} {tgt : Nat} (hd : decode Y.2.1 pc = .ok (.if_icmp .ge off, 3)) (ht : (pc : Int) + off = (tgt : Int)) (hn : pc + 3 = n) (kt : y ≤ x → ML V l Y d C S Kc ck sk Z tgt lv st h) (kf : ¬ y ≤ x → ML V l Y d C S Kc ck sk Z n lv st h) : ML V l Y d C S Kc ck sk Z pc lv (.int y :: .int x :: st) h := by
  subst hn
  intro p e R s m args below meth c H locs ls F hl hP hS
  exact lv_icmp_ge (mx_dn F).1 (mx_dn F).2.1 hd ht (fun c9 => kt c9 p e R s m args below meth c H locs ls F hl hP hS) (fun c9 => kf c9 p e R s m args below meth c H locs ls F hl hP hS)
theorem ML.icmp_gt {x y : Int32} {off : Int} {tgt : Nat} (hd : decode Y.2.1 pc = .ok (.if_icmp .gt off, 3)) (ht : (pc : Int) + off = (tgt : Int)) (hn : pc + 3 = n) (kt : y < x → ML V l Y d C S Kc ck sk Z tgt lv st h) (kf : ¬ y < x → ML V l Y d C S Kc ck sk Z n lv st h) : ML V l Y d C S Kc ck sk Z pc lv (.int y :: .int x :: st) h := by
  subst hn
  intro p e R s m args below meth c H locs ls F hl hP hS
  exact lv_icmp_gt (mx_dn F).1 (mx_dn F).2.1 hd ht (fun c9 => kt c9 p e R s m args below meth c H locs ls F hl hP hS) (fun c9 => kf c9 p e R s m args below meth c H locs ls F hl hP hS)
theorem ML.icmp_le {x y : Int32} {off : Int} {tgt : Nat} (hd : decode Y.2.1 pc = .ok (.if_icmp .le off, 3)) (ht : (pc : Int) + off = (tgt : Int)) (hn : pc + 3 = n) (kt : x ≤ y → ML V l Y d C S Kc ck sk Z tgt lv st h) (kf : ¬ x ≤ y → ML V l Y d C S Kc ck sk Z n lv st h) : ML V l Y d C S Kc ck sk Z pc lv (.int y :: .int x :: st) h := by
  subst hn
  intro p e R s m args below meth c H locs ls F hl hP hS
  exact lv_icmp_le (mx_dn F).1 (mx_dn F).2.1 hd ht (fun c9 => kt c9 p e R s m args below meth c H locs ls F hl hP hS) (fun c9 => kf c9 p e R s m args below meth c H locs ls F hl hP hS)
theorem ML.goto {off : Int} {tgt : Nat} (hd : decode Y.2.1 pc = .ok (.goto off, 3)) (ht : (pc : Int) + off = (tgt : Int)) (k : ML V l Y d C S Kc ck sk Z tgt lv st h) : ML V l Y d C S Kc ck sk Z pc lv st h := by
  intro p e R s m args below meth c H locs ls F hl hP hS
  exact lv_goto (mx_dn F).1 (mx_dn F).2.1 hd ht (k p e R s m args below meth c H locs ls F hl hP hS)
theorem ML.getW {i a k : Nat} (t : Nat) (ht : mm_tg a = t) (hly : mm_lays t) (hq : t < 10 ∧ k < mm_nf t ∧ mm_kd (mm_ty t k) = 2) (hlk : Cond.fieldLink Y.1.cls i (mm_fld t k).1 (mm_fld t k).2.1 (mm_fld t k).2.2.1 ∈ mm_gw) (hd : decode Y.2.1 pc = .ok (.getfield i, 3)) (hn : pc + 3 = n) (kk : ML V l Y d C S Kc ck sk Z n lv (va_rf (mm_rf h a k) :: st) h) : ML V l Y d C S Kc ck sk Z pc lv (.ref a :: st) h := by
  subst hn
  intro p e R s m args below meth c H locs ls F hl hP hS
  refine mm_getW (mx_dn F) hP hly ht hq.1 hq.2.1 hlk hd ?_
  rw [mm_val_r ht hq.2.2]
  exact kk p e R s m args below meth c H locs ls F hl hP hS
theorem ML.getR {i a k r : Nat} (t : Nat) (ht : mm_tg a = t) (er : mm_rf h a k = some r) (hly : mm_lays t) (hq : t < 10 ∧ k < mm_nf t ∧ mm_kd (mm_ty t k) = 2) (hlk : Cond.fieldLink Y.1.cls i (mm_fld t k).1 (mm_fld t k).2.1 (mm_fld t k).2.2.1 ∈ mm_gw) (hd : decode Y.2.1 pc = .ok (.getfield i, 3)) (hn : pc + 3 = n) (kk : ML V l Y d C S Kc ck sk Z n lv (.ref r :: st) h) : ML V l Y d C S Kc ck sk Z pc lv (.ref a :: st) h := by
  refine ML.getW t ht hly hq hlk hd hn ?_
  rw [er]
  exact kk
theorem ML.gT {i k r : Nat} (e : h.2.2 32 k = some r) (ht : mm_tg 32 = 8) (hq : k < mm_nf 8 ∧ mm_kd (mm_ty 8 k) = 2 ∧ mm_mu 8 k = true) (hly : mm_lays 8) (hlk : Cond.fieldLink Y.1.cls i (mm_fld 8 k).1 (mm_fld 8 k).2.1 (mm_fld 8 k).2.2.1 ∈ mm_gw) (hd : decode Y.2.1 pc = .ok (.getfield i, 3)) (hn : pc + 3 = n) (kk : ML V l Y d C S Kc ck sk Z n lv (.ref r :: st) h) : ML V l Y d C S Kc ck sk Z pc lv (.ref 32 :: st) h := by
  refine ML.getR 8 ht ?_ hly ⟨by omega, hq.1, hq.2.1⟩ hlk hd hn kk
  unfold mm_rf
  rw [ht, hq.2.2, if_pos rfl, e]
theorem ML.lald {a : Nat} {i : Int32} (ht : mm_tg a = 21) (hin : vp_in i (mm_ln a)) (hd : decode Y.2.1 pc = .ok (.laload, 1)) (hn : pc + 1 = n) (kk : ML V l Y d C S Kc ck sk Z n lv (.long (h.2.1 a i.toNatClampNeg) :: st) h) : ML V l Y d C S Kc ck sk Z pc lv (.int i :: .ref a :: st) h := by
  subst hn
  intro p e R s m args below meth c H locs ls F hl hP hS
  obtain ⟨q1, q2⟩ := mm_arr (mx_dn F) hP ht (by omega) (by omega)
  exact W.lald (v := .long (h.2.1 a i.toNatClampNeg)) (mx_dn F).1 (mx_dn F).2.1 q1 q2 (fun q => by cases q) (mm_in_ln hin) (by rw [arrV_read _ _ (mm_in_lt hin), mm_val_l ht rfl]; rfl) rfl rfl hd (kk p e R s m args below meth c H locs ls F hl hP hS)
theorem ML.gL {a k N : Nat} {i : Int32} (hk : mm_ix i N = some k) (ht : mm_tg a = 21 ∧ mm_ln a = N) (hd : decode Y.2.1 pc = .ok (.laload, 1)) (hn : pc + 1 = n) (kk : ML V l Y d C S Kc ck sk Z n lv (.long (h.2.1 a k) :: st) h) : ML V l Y d C S Kc ck sk Z pc lv (.int i :: .ref a :: st) h := by
  obtain ⟨h1, rfl⟩ := mm_ixE hk
  exact ML.lald ht.1 (by rw [ht.2]; exact h1) hd hn kk
theorem ML.last {a : Nat} {i : Int32} {x : Int64} {h' : mm_H} (e : h' = mm_pL h a i.toNatClampNeg (x)) (ht : mm_tg a = 21) (hin : vp_in i (mm_ln a)) (hd : decode Y.2.1 pc = .ok (.lastore, 1)) (hn : pc + 1 = n) (kk : ML V l Y d C S Kc ck sk Z n lv st h') : ML V l Y d C S Kc ck sk Z pc lv (.long x :: .int i :: .ref a :: st) h := by
  subst hn
  subst e
  intro p e R s m args below meth c H locs ls F hl hP hS
  obtain ⟨q1, q2⟩ := mm_arr (mx_dn F) hP ht (by omega) (by omega)
  refine W.last (mx_dn F).1 (mx_dn F).2.1 q1 q2 (fun q => by cases q) (mm_in_ln hin) rfl rfl hd fun H' e1 e2 e3 => ?_
  obtain ⟨hP', hS'⟩ := mm_astW (mx_dn F).2.2.2.2.2.2.2.1.1 hP hS ht (by omega) (by omega) (mm_pL_off h a i.toNatClampNeg (x)) (v := .long (x)) (by rw [mm_val_l ht rfl]; simp [mm_pL]) e1 e2 e3
  exact kk p e R s m args below meth c H' _ ls F hl hP' hS'
theorem ML.sL {a k N : Nat} {i : Int32} {x : Int64} {h' : mm_H} (hk : mm_ix i N = some k) (e : h' = mm_pL h a k x) (ht : mm_tg a = 21 ∧ mm_ln a = N) (hd : decode Y.2.1 pc = .ok (.lastore, 1)) (hn : pc + 1 = n) (kk : ML V l Y d C S Kc ck sk Z n lv st h') : ML V l Y d C S Kc ck sk Z pc lv (.long x :: .int i :: .ref a :: st) h := by
  obtain ⟨h1, rfl⟩ := mm_ixE hk
  exact ML.last e ht.1 (by rw [ht.2]; exact h1) hd hn kk
theorem ML.slen (hd : decode Y.2.1 pc = .ok (.arraylength, 1)) (hn : pc + 1 = n) (kk : ML V l Y d C S Kc ck sk Z n lv (.int (Int32.ofNat V.2.2.2.1) :: st) h) : ML V l Y d C S Kc ck sk Z pc lv (.ref 31 :: st) h := by
  subst hn
  intro p e R s m args below meth c H locs ls F hl hP hS
  exact va_tlen (mx_dn F).1 (mx_dn F).2.1 (mx_dn F).2.2.2.2.2.2.2.1.2.2.2.2.2.2.2.2.2.2 hS rfl hd (kk p e R s m args below meth c H locs ls F hl hP hS)
theorem ML.sld {i : Int32} {k : Nat} (hk : mm_ix i V.2.2.2.1 = some k) (hd : decode Y.2.1 pc = .ok (.iaload, 1)) (hn : pc + 1 = n) (kk : ML V l Y d C S Kc ck sk Z n lv (.int (V.2.2.2.2 k) :: st) h) : ML V l Y d C S Kc ck sk Z pc lv (.int i :: .ref 31 :: st) h := by
  obtain ⟨hin, rfl⟩ := mm_ixE hk
  subst hn
  intro p e R s m args below meth c H locs ls F hl hP hS
  obtain ⟨cell, g1, g2, g3, g4, g5, g6, -⟩ := (mx_dn F).2.2.2.2.2.2.2.1.2.2.2.2.2.2.2.2.2.2.kept hS.2.1
  have hlt := mm_in_lt hin
  refine W.iald (v := .int (V.2.2.2.2 i.toNatClampNeg)) (mx_dn F).1 (mx_dn F).2.1 g1 g2 g3 (fun q => ?_) (g6 _ hlt) rfl rfl hd (kk p e R s m args below meth c H locs ls F hl hP hS)
  exact hin (q.elim Or.inl (fun z => Or.inr (Nat.le_trans g4 z)))
theorem ML.tableIn {dflt lo hi : Int} {offs : Array Int} {len : Nat} {x : Int32} (v : Int) {off : Int} {tgt : Nat} (hx : x.toInt = v) (h1 : ¬ v < lo ∧ ¬ hi < v) (hd : decode Y.2.1 pc = .ok (.tableswitch dflt lo hi offs, len)) (ho : offs[(v - lo).toNat]? = some off) (ht : (pc : Int) + off = (tgt : Int)) (k : ML V l Y d C S Kc ck sk Z tgt lv st h) : ML V l Y d C S Kc ck sk Z pc lv (.int x :: st) h := by
  subst hx
  intro p e R s m args below meth c H locs ls F hl hP hS
  exact lv_tableIn (mx_dn F).1 (mx_dn F).2.1 hd h1.1 h1.2 ho ht (k p e R s m args below meth c H locs ls F hl hP hS)
theorem ML.tableOut {dflt lo hi : Int} {offs : Array Int} {len : Nat} {x : Int32} {tgt : Nat} (hx : x.toInt < lo ∨ hi < x.toInt) (hd : decode Y.2.1 pc = .ok (.tableswitch dflt lo hi offs, len)) (ht : (pc : Int) + dflt = (tgt : Int)) (k : ML V l Y d C S Kc ck sk Z tgt lv st h) : ML V l Y d C S Kc ck sk Z pc lv (.int x :: st) h := by
  intro p e R s m args below meth c H locs ls F hl hP hS
  exact lv_tableOut (mx_dn F).1 (mx_dn F).2.1 hd hx ht (k p e R s m args below meth c H locs ls F hl hP hS)
theorem ML.callV1g {Y2 : mm_Y} {b t d2 np index : Nat} {As stk : List Value} (hT : MT V l Y2 d2 (.ref b :: As) Q h) (hQ : ∀ r1 h1, Q r1 h1 → r1 = some v ∧ h1 = h') (hc : mm_callee Y2 np) (hnp : As.length = np) (ht : mm_tg b = t) (hcl : t < 10 ∧ (mm_cl.getD t (RX0, TX0, 0)).1 = Y2.1.cls) (hsel : Cond.selects Y2.1.cls Y2.1 Y2.1 ∈ mm_gw) (hin : Cond.instanceMethod Y2.1 ∈ mm_gw) (hl : Cond.methodLink Y.1.cls index Y2.1 ∈ mm_gw) (hd2 : d2 + 1 ≤ d) (hcat : (st.map fun v => v.category).sum ≤ 8)
    (hd : decode Y.2.1 pc = .ok (.invokevirtual index, 3)) (hstk : As.reverse ++ .ref b :: st = stk) (hn : pc + 3 = n) (k : ML V l Y d C S Kc ck sk Z n lv (v :: st) h') : ML V l Y d C S Kc ck sk Z pc lv stk h := by
  subst hn; subst hstk; subst hnp
  intro p e R s m args below meth c H locs ls F hl0 hP hS
  have hr := mm_rcv (mx_dn F) hP ht hcl.1
  rw [hcl.2] at hr
  have run : va_Run p l e R s m args below meth c H locs ck sk 0 0 (F0 m pc ls ((As.reverse ++ .ref b :: st).map (mm_rv V))) (st.map (mm_rv V)) (mm_Q V Q ((.ref b :: As).map (mm_rv V)).toArray) (mm_fr V) := va_runV (H := H) (locs := locs) (cells := ck) (slots := sk) (g := F0 m pc ls ((As.reverse ++ .ref b :: st).map (mm_rv V))) (b := V.1 b) (As := As.map (mm_rv V)) (rest := st.map (mm_rv V)) (C := Y2.1.cls) (mm_fix (mx_dn F)) hT ⟨mm_cb (mx_dn F) hc hl hd2, (mx_dn F).2.2.2.2.2.2.1 _ hin, (mx_dn F).2.2.2.2.2.2.1 _ hsel⟩
    ⟨mm_blind, hr, mm_pre (mx_dn F) hP hS (.ref b :: As)⟩ rfl (List.length_map ..) hl0.1 (by simp [F0, mm_rv]) (lv_room (by rw [List.map_map]; have e9 : (fun v => Value.category v) ∘ mm_rv V = fun v => Value.category v := funext fun v => mm_rv_cat V v; rw [e9]; exact hcat)) hd ⟨(mx_dn F).2.2.2.2.2.2.2.2.2.1, (mx_dn F).2.2.2.2.2.2.2.2.2.2⟩
  refine mm_after run hS fun r h1 H1 locs1 hq hP1 hS1 => ?_
  obtain ⟨rfl, rfl⟩ := hQ r h1 hq
  exact k p e R s m args below meth c H1 locs1 ls F hl0 hP1 hS1
end MLR
