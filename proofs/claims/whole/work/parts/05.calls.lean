/-! CALLS: a method's contract MT; what moves with a call; the ways to call -/
def MT (V : mm_V) (l : Launch) (Y : mm_Y) (d : Nat) (av : List Value) (Q : Option Value → mm_H → Prop) (h : mm_H) : Prop :=
  Met l Y.1 (Cond.code Y.1 Y.2.1 Y.2.2.1 Y.2.2.2 :: mm_gw) { frames := d, cells := 0, slots := 0, locals := 60 * d } (va_Pc (av.map (mm_rv V)) (fun U => mm_P V h U.heap ∧ mm_E V U U.heap)) (mm_Q V Q) 0 0 (mm_fr V)
theorem mm_St.moved {V : mm_V} {u U : State} {H : Heap} (hW : u.WarmedH U.vm) (h : mm_St V u H) : mm_St V U H := by
  obtain ⟨h1, h2, h3, h4, h5, h6, h7, h8⟩ := h
  exact ⟨fun j hj => (h1 j hj).moved hW.alike, h2.moved hW.alike, fun j hj => ⟨(h3 j hj).1.moved hW.alike, (h3 j hj).2.moved hW.alike⟩, h4.moved hW.alike, h5.warm hW, h6.moved hW.alike, h7.moved hW.alike, h8.moved hW.alike⟩
theorem mm_St.kept {V : mm_V} {U : State} {H H1 : Heap} (hq : ∀ a : Nat, a < H.size → ¬ mm_fr V a → H1[a]? = H[a]?) (h : mm_St V U H) : mm_St V U H1 := by
  obtain ⟨h1, h2, h3, h4, h5, h6, h7, h8⟩ := h
  exact ⟨fun j hj => (h1 j hj).kept hq, h2.kept hq, fun j hj => ⟨(h3 j hj).1.kept hq, (h3 j hj).2.kept hq⟩, h4.kept hq, h5, h6.kept hq, h7.kept hq, h8.kept hq⟩
theorem mm_St.same {V : mm_V} {u U : State} {H : Heap} (hv : U.vm = u.vm) (h : mm_St V u H) : mm_St V U H := by
  obtain ⟨h1, h2, h3, h4, h5, h6, h7, h8⟩ := h
  have ha : u.vm.Alike U.vm := by rw [hv]; exact Vm.Alike.refl _
  exact ⟨fun j hj => (h1 j hj).moved ha, h2.moved ha, fun j hj => ⟨(h3 j hj).1.moved ha, (h3 j hj).2.moved ha⟩, h4.moved ha, h5.same hv, h6.moved ha, h7.moved ha, h8.moved ha⟩
theorem mm_nw_same {s U : State} (hv : U.vm = s.vm) (h : ∀ w ∈ mm_nw, va_Nw w s) : ∀ w ∈ mm_nw, va_Nw w U := by
  intro w hw
  have h1 := h w hw
  have h2 := (List.mem_filter.mp hw).2
  cases w <;> first | exact va_tabs rfl hv.symm h1 | (exact absurd h2 (by simp))
theorem mm_E.moved {V : mm_V} {s U : State} {H H1 : Heap} (hW : s.WarmedH U.vm) (hq : ∀ a : Nat, a < H.size → ¬ mm_fr V a → H1[a]? = H[a]?) (h : mm_E V s H) : mm_E V U H1 :=
  ⟨h.1, va_K.moved hW.alike h.2.1, mm_nw_move hW h.2.2.1, mm_St.kept hq (mm_St.moved hW h.2.2.2)⟩
theorem mm_E.same {V : mm_V} {s U : State} {H : Heap} (hv : U.vm = s.vm) (h : mm_E V s H) : mm_E V U H :=
  ⟨h.1, va_K.moved (by rw [hv]; exact Vm.Alike.refl _) h.2.1, mm_nw_same hv h.2.2.1, mm_St.same hv h.2.2.2⟩
theorem mm_blind {V : mm_V} {h : mm_H} {av : List Value} : FrameBlind (va_Pc av (fun U => mm_P V h U.heap ∧ mm_E V U U.heap)) :=
  fun a U g mk q => ⟨q.1, q.2.1, mm_E.same (s := U) rfl q.2.2⟩
theorem MT.intro {V : mm_V} {l : Launch} {Y : mm_Y} {d : Nat} {av : List Value} {Q : Option Value → mm_H → Prop} {h : mm_H} (hy : plainFor Y.1 = true) (lv : List (Nat × Value)) (hlv : lv_args 0 av = lv) (hn : (lg_sl av).length ≤ Y.2.2.1)
    (k : MM V l Y d 0 0 (mm_Z V Q) 0 lv [] h) : MT V l Y d av Q h := by
  refine va_MetF (cc := Y.2.1) (maxL := Y.2.2.1) (ret := Y.2.2.2) hy rfl ?_
  intro p e s m args below meth c s₁ B hml hv
  obtain ⟨rfl, hP, hE⟩ := hv
  have hts := atoms_spec (ws := Cond.code Y.1 Y.2.1 Y.2.2.1 Y.2.2.2 :: mm_gw) B.pre
  rw [lg_entry_eq]
  have e1 : ∀ av : List Value, (lg_sl (av.map (mm_rv V))).length = (lg_sl av).length := by
    intro av
    induction av with
    | nil => rfl
    | cons v vs ih =>
      have e2 : ∀ (w : Value) (ws : List Value), (lg_sl (w :: ws)).length = (lg_sl [w]).length + (lg_sl ws).length := by
        intro w ws
        simp [lg_sl]
      rw [List.map_cons, e2, ih, e2 v vs]
      cases v <;> rfl
  have e3 : ∀ (av : List Value) (i : Nat), lv_args i (av.map (mm_rv V)) = (lv_args i av).map (mm_lp V) := by
    intro av
    induction av with
    | nil => intro i; rfl
    | cons v vs ih =>
      intro i
      simp only [List.map_cons, lv_args, ih, mm_rv_cat]
      rfl
  have hl := lv_entry (av.map (mm_rv V)) (n := Y.2.2.1) (by rw [e1]; exact hn)
  rw [e3, hlv] at hl
  exact k p e _ s m _ below meth c s.heap [] _ ⟨B.exec, B.bytes, B.returns, B.notSynchronized, hml, findClass_of_methodNamed B.named, fun w hw => hts w (List.mem_cons_of_mem _ hw), hE, ⟨Nat.le_refl _, Nat.le_refl _⟩, Nat.zero_le _, Nat.zero_le _⟩ hl hP va_S.rf
section MMC
variable {V : mm_V} {l : Launch} {Y : mm_Y} {d ck sk : Nat} {p : Program} {e : Env} {R : Room} {s : State} {m : MethodId} {args : Array Value} {below : List Frame} {meth : Method} {c : Code} {H : Heap} {locs : List Loc} {ls : Array Slot} {Qw : State → Prop} {pc : Nat} {rest st0 : List Value} {a : Array Value} {Q : Option Value → mm_H → Prop}
/-- behind a call -/
theorem mm_after {cells slots : Nat} (hr : va_Run p l e R s m args below meth c H locs cells slots 0 0 (F0 m pc ls st0) rest (mm_Q V Q a) (mm_fr V)) (hS : va_S (mm_fr V) s.heap H locs)
    (kk : ∀ (r : Option Value) (h1 : mm_H) (H1 : Heap) (locs1 : List Loc), Q r h1 → mm_P V h1 H1 → va_S (mm_fr V) s.heap H1 locs1 → W p l e R s m args below meth c H1 locs1 cells slots Qw (F0 m (pc + 3) ls ((r.map (mm_rv V)).toList ++ rest))) : W p l e R s m args below meth c H locs cells slots Qw (F0 m pc ls st0) := by
  intro T hT X
  obtain ⟨v, st₀, t, T', L, h0, X', hL, e1, e2, ⟨⟨r, h1, hv, hq, hp⟩, hz, hk⟩, st⟩ := hr T hT X
  cases hv
  rw [h0] at hz hk
  obtain ⟨t2, a1, b1⟩ := kk r h1 T'.heap (locs ++ L) hq (by rw [e1]; exact hp)
    ⟨Nat.le_trans hS.1 (by rw [e1]; exact hz), fun q h1 h2 => by rw [e1, hk q (Nat.lt_of_lt_of_le h1 hS.1) h2]; exact hS.2.1 q h1 h2, fun q hq => by
      rcases List.mem_append.mp hq with h | h
      · exact hS.2.2 q h
      · exact hL q h⟩ T' rfl X'
  exact ⟨t2, st t2 a1, b1⟩
/-- what the caller brings -/
theorem mm_pre (F : mm_F V Y d ck sk p R s m args meth c) {h : mm_H} (hP : mm_P V h H) (hS : va_S (mm_fr V) s.heap H locs) (av : List Value) : ∀ U : State, U.heap = H → s.WarmedH U.vm → va_Pc (av.map (mm_rv V)) (fun U => mm_P V h U.heap ∧ mm_E V U U.heap) (av.map (mm_rv V)).toArray U := by
  intro U hU hW
  refine ⟨rfl, by rw [hU]; exact hP, ?_⟩
  rw [hU]
  exact mm_E.moved hW hS.2.1 F.2.2.2.2.2.2.2.1
/-- the object whose method is called -/
theorem mm_rcv (F : mm_F V Y d ck sk p R s m args meth c) {h : mm_H} (hP : mm_P V h H) {b t : Nat} (ht : mm_tg b = t) (ht2 : t < 10) : ∃ cellB : Cell, H[V.1 b]? = some cellB ∧ cellB.vm.isStatics = false ∧ s.vm.findClass (mm_cl.getD t (RX0, TX0, 0)).1 = some cellB.cls := by
  have hal := mm_tg_lt ht (by omega)
  obtain ⟨cell, q1, q2, q3, q4⟩ := (hP b hal.1 hal.2).obj ht (by omega)
  obtain ⟨hS, hfc, -⟩ := (F.2.2.2.2.2.2.2.1.2.1).1 t _ (mm_getD ht2)
  exact ⟨cell, q1, by rw [q3]; rfl, by rw [q2]; exact hfc⟩
theorem mm_fix (F : mm_F V Y d ck sk p R s m args meth c) : CallFix p m c Y.2.1 Y.2.2.1 s args mm_gw Y.1.cls := ⟨F.1, F.2.1, F.2.2.2.2.1, F.2.2.2.2.2.1, F.2.2.2.2.2.2.1⟩
/-- what every callee brings along -/
def mm_callee (Y2 : mm_Y) (n : Nat) : Prop := Cond.code Y2.1 Y2.2.1 Y2.2.2.1 Y2.2.2.2 ∈ mm_gw ∧ Cond.initialized Y2.1.cls ∈ mm_gw ∧ (Y2.1.cls ≠ "java/lang/invoke/MethodHandle" ∧ Y2.1.cls ≠ "java/lang/invoke/VarHandle" ∧ (parseMethodDescriptor Y2.1.desc).map (fun d => d.parameters.length) = some n) ∧ Y2.2.2.1 ≤ 41
theorem mm_cb (F : mm_F V Y d ck sk p R s m args meth c) {Y2 : mm_Y} {d2 n index : Nat} (hc : mm_callee Y2 n) (hl : Cond.methodLink Y.1.cls index Y2.1 ∈ mm_gw) (hd2 : d2 + 1 ≤ d) :
    CallB R s args Y.1.cls index Y2.1 Y2.2.1 Y2.2.2.1 Y2.2.2.2 (Cond.code Y2.1 Y2.2.1 Y2.2.2.1 Y2.2.2.2 :: mm_gw) { frames := d2, cells := 0, slots := 0, locals := 60 * d2 } 0 0 n := by
  have hR := F.2.2.2.2.2.2.2.2.1
  refine callB_of (Ts := mm_gw) n F.2.2.2.2.2.2.1 (mm_gw_good hc.1) rfl rfl rfl (F.2.2.2.2.2.2.1 _ hc.2.1) (F.2.2.2.2.2.2.1 _ hl) hc.2.2.1 ⟨?_, ?_⟩
  · show d2 + 1 ≤ R.frames; omega
  · show 8 + (Y2.2.2.1 + 11) + 60 * d2 ≤ R.locals
    have := hc.2.2.2
    omega
theorem mm_cn (F : mm_F V Y d ck sk p R s m args meth c) {Y2 : mm_Y} {d2 n index : Nat} {host : String} (hc : mm_callee Y2 n) (hl : Cond.methodLinkNest Y.1.cls index Y2.1 host ∈ mm_nw) (hd2 : d2 + 1 ≤ d) :
    va_CN R s args Y.1.cls index Y2.1 host Y2.2.1 Y2.2.2.1 Y2.2.2.2 (Cond.code Y2.1 Y2.2.1 Y2.2.2.1 Y2.2.2.2 :: mm_gw) { frames := d2, cells := 0, slots := 0, locals := 60 * d2 } 0 0 n := by
  have hR := F.2.2.2.2.2.2.2.2.1
  refine va_cnB (Ts := mm_gw) n F.2.2.2.2.2.2.1 (mm_gw_good hc.1) rfl rfl rfl (F.2.2.2.2.2.2.2.1.2.2.1 _ hl) (F.2.2.2.2.2.2.1 _ hc.2.1) hc.2.2.1 ⟨?_, ?_⟩
  · show d2 + 1 ≤ R.frames; omega
  · show 8 + (Y2.2.2.1 + 11) + 60 * d2 ≤ R.locals
    have := hc.2.2.2
    omega
end MMC
section MMK
variable {V : mm_V} {l : Launch} {Y : mm_Y} {d ck sk : Nat} {Z : List Frame → Array Value → State → State → Prop} {pc n : Nat} {lv : List (Nat × Value)} {st : List Value} {h : mm_H} {Q : Option Value → mm_H → Prop}
theorem MM.callV {Y2 : mm_Y} {b t d2 np index : Nat} {As stk : List Value} (hT : MT V l Y2 d2 (.ref b :: As) Q h) (hc : mm_callee Y2 np) (hnp : As.length = np) (ht : mm_tg b = t) (hcl : t < 10 ∧ (mm_cl.getD t (RX0, TX0, 0)).1 = Y2.1.cls) (hsel : Cond.selects Y2.1.cls Y2.1 Y2.1 ∈ mm_gw) (hin : Cond.instanceMethod Y2.1 ∈ mm_gw) (hl : Cond.methodLink Y.1.cls index Y2.1 ∈ mm_gw) (hd2 : d2 + 1 ≤ d) (hcat : (st.map fun v => v.category).sum ≤ 8)
    (hd : decode Y.2.1 pc = .ok (.invokevirtual index, 3)) (hstk : As.reverse ++ .ref b :: st = stk) (hck : ck = 0 ∧ sk = 0) (hn : pc + 3 = n) (k : ∀ r h1, Q r h1 → MM V l Y d ck sk Z n lv (r.toList ++ st) h1) : MM V l Y d ck sk Z pc lv stk h := by
  subst hn; subst hstk; subst hnp
  obtain ⟨rfl, rfl⟩ := hck
  intro p e R s m args below meth c H locs ls F hl0 hP hS
  have hr := mm_rcv F hP ht hcl.1
  rw [hcl.2] at hr
  have run : va_Run p l e R s m args below meth c H locs 0 0 0 0 (F0 m pc ls ((As.reverse ++ .ref b :: st).map (mm_rv V))) (st.map (mm_rv V)) (mm_Q V Q ((.ref b :: As).map (mm_rv V)).toArray) (mm_fr V) := va_runV (H := H) (locs := locs) (cells := 0) (slots := 0) (g := F0 m pc ls ((As.reverse ++ .ref b :: st).map (mm_rv V))) (b := V.1 b) (As := As.map (mm_rv V)) (rest := st.map (mm_rv V)) (C := Y2.1.cls) (mm_fix F) hT ⟨mm_cb F hc hl hd2, F.2.2.2.2.2.2.1 _ hin, F.2.2.2.2.2.2.1 _ hsel⟩
    ⟨mm_blind, hr, mm_pre F hP hS (.ref b :: As)⟩ rfl (List.length_map ..) hl0.1 (by simp [F0, mm_rv]) (lv_room (by rw [List.map_map]; have e9 : (fun v => Value.category v) ∘ mm_rv V = fun v => Value.category v := funext fun v => mm_rv_cat V v; rw [e9]; exact hcat)) hd ⟨Nat.zero_le _, Nat.zero_le _⟩
  refine mm_after run hS fun r h1 H1 locs1 hq hP1 hS1 => ?_
  have k9 := k r h1 hq p e R s m args below meth c H1 locs1 ls F hl0 hP1 hS1
  rw [List.map_append] at k9
  cases r <;> exact k9
theorem MM.callVN {Y2 : mm_Y} {b t d2 np index : Nat} {host : String} {As stk : List Value} (hT : MT V l Y2 d2 (.ref b :: As) Q h) (hc : mm_callee Y2 np) (hnp : As.length = np) (ht : mm_tg b = t) (hcl : t < 10 ∧ (mm_cl.getD t (RX0, TX0, 0)).1 = Y2.1.cls) (hsel : Cond.selects Y2.1.cls Y2.1 Y2.1 ∈ mm_gw) (hin : Cond.instanceMethod Y2.1 ∈ mm_gw) (hl : Cond.methodLinkNest Y.1.cls index Y2.1 host ∈ mm_nw) (hd2 : d2 + 1 ≤ d) (hcat : (st.map fun v => v.category).sum ≤ 8)
    (hd : decode Y.2.1 pc = .ok (.invokevirtual index, 3)) (hstk : As.reverse ++ .ref b :: st = stk) (hck : ck = 0 ∧ sk = 0) (hn : pc + 3 = n) (k : ∀ r h1, Q r h1 → MM V l Y d ck sk Z n lv (r.toList ++ st) h1) : MM V l Y d ck sk Z pc lv stk h := by
  subst hn; subst hstk; subst hnp
  obtain ⟨rfl, rfl⟩ := hck
  intro p e R s m args below meth c H locs ls F hl0 hP hS
  have hr := mm_rcv F hP ht hcl.1
  rw [hcl.2] at hr
  have run : va_Run p l e R s m args below meth c H locs 0 0 0 0 (F0 m pc ls ((As.reverse ++ .ref b :: st).map (mm_rv V))) (st.map (mm_rv V)) (mm_Q V Q ((.ref b :: As).map (mm_rv V)).toArray) (mm_fr V) := va_runVN (H := H) (locs := locs) (cells := 0) (slots := 0) (g := F0 m pc ls ((As.reverse ++ .ref b :: st).map (mm_rv V))) (b := V.1 b) (As := As.map (mm_rv V)) (rest := st.map (mm_rv V)) (C := Y2.1.cls) (mm_fix F) hT ⟨mm_cn F hc hl hd2, F.2.2.2.2.2.2.1 _ hin, F.2.2.2.2.2.2.1 _ hsel⟩
    ⟨mm_blind, hr, mm_pre F hP hS (.ref b :: As)⟩ rfl (List.length_map ..) hl0.1 (by simp [F0, mm_rv]) (lv_room (by rw [List.map_map]; have e9 : (fun v => Value.category v) ∘ mm_rv V = fun v => Value.category v := funext fun v => mm_rv_cat V v; rw [e9]; exact hcat)) hd ⟨Nat.zero_le _, Nat.zero_le _⟩
  refine mm_after run hS fun r h1 H1 locs1 hq hP1 hS1 => ?_
  have k9 := k r h1 hq p e R s m args below meth c H1 locs1 ls F hl0 hP1 hS1
  rw [List.map_append] at k9
  cases r <;> exact k9
theorem MM.callS {Y2 : mm_Y} {d2 np index : Nat} {As stk : List Value} (hT : MT V l Y2 d2 As Q h) (hc : mm_callee Y2 np) (hnp : As.length = np) (hstt : Cond.static Y2.1 ∈ mm_gw) (hl : Cond.methodLink Y.1.cls index Y2.1 ∈ mm_gw) (hd2 : d2 + 1 ≤ d) (hcat : (st.map fun v => v.category).sum ≤ 8)
    (hd : decode Y.2.1 pc = .ok (.invokestatic index, 3)) (hstk : As.reverse ++ st = stk) (hck : ck = 0 ∧ sk = 0) (hn : pc + 3 = n) (k : ∀ r h1, Q r h1 → MM V l Y d ck sk Z n lv (r.toList ++ st) h1) : MM V l Y d ck sk Z pc lv stk h := by
  subst hn; subst hstk; subst hnp
  obtain ⟨rfl, rfl⟩ := hck
  intro p e R s m args below meth c H locs ls F hl0 hP hS
  have run : va_Run p l e R s m args below meth c H locs 0 0 0 0 (F0 m pc ls ((As.reverse ++ st).map (mm_rv V))) (st.map (mm_rv V)) (mm_Q V Q (As.map (mm_rv V)).toArray) (mm_fr V) := va_runS (H := H) (locs := locs) (cells := 0) (slots := 0) (g := F0 m pc ls ((As.reverse ++ st).map (mm_rv V))) (As := As.map (mm_rv V)) (rest := st.map (mm_rv V)) (mm_fix F) hT ⟨mm_cb F hc hl hd2, F.2.2.2.2.2.2.1 _ hstt⟩
    ⟨mm_blind, mm_pre F hP hS As⟩ rfl (List.length_map ..) hl0.1 (by simp [F0]) (lv_room (by rw [List.map_map]; have e9 : (fun v => Value.category v) ∘ mm_rv V = fun v => Value.category v := funext fun v => mm_rv_cat V v; rw [e9]; exact hcat)) hd ⟨Nat.zero_le _, Nat.zero_le _⟩
  refine mm_after run hS fun r h1 H1 locs1 hq hP1 hS1 => ?_
  have k9 := k r h1 hq p e R s m args below meth c H1 locs1 ls F hl0 hP1 hS1
  rw [List.map_append] at k9
  cases r <;> exact k9
theorem MM.callSN {Y2 : mm_Y} {d2 np index : Nat} {host : String} {As stk : List Value} (hT : MT V l Y2 d2 As Q h) (hc : mm_callee Y2 np) (hnp : As.length = np) (hstt : Cond.static Y2.1 ∈ mm_gw) (hl : Cond.methodLinkNest Y.1.cls index Y2.1 host ∈ mm_nw) (hd2 : d2 + 1 ≤ d) (hcat : (st.map fun v => v.category).sum ≤ 8)
    (hd : decode Y.2.1 pc = .ok (.invokestatic index, 3)) (hstk : As.reverse ++ st = stk) (hck : ck = 0 ∧ sk = 0) (hn : pc + 3 = n) (k : ∀ r h1, Q r h1 → MM V l Y d ck sk Z n lv (r.toList ++ st) h1) : MM V l Y d ck sk Z pc lv stk h := by
  subst hn; subst hstk; subst hnp
  obtain ⟨rfl, rfl⟩ := hck
  intro p e R s m args below meth c H locs ls F hl0 hP hS
  have run : va_Run p l e R s m args below meth c H locs 0 0 0 0 (F0 m pc ls ((As.reverse ++ st).map (mm_rv V))) (st.map (mm_rv V)) (mm_Q V Q (As.map (mm_rv V)).toArray) (mm_fr V) := va_runSN (H := H) (locs := locs) (cells := 0) (slots := 0) (g := F0 m pc ls ((As.reverse ++ st).map (mm_rv V))) (As := As.map (mm_rv V)) (rest := st.map (mm_rv V)) (mm_fix F) hT ⟨mm_cn F hc hl hd2, F.2.2.2.2.2.2.1 _ hstt, trivial⟩
    ⟨mm_blind, mm_pre F hP hS As⟩ rfl (List.length_map ..) hl0.1 (by simp [F0]) (lv_room (by rw [List.map_map]; have e9 : (fun v => Value.category v) ∘ mm_rv V = fun v => Value.category v := funext fun v => mm_rv_cat V v; rw [e9]; exact hcat)) hd ⟨Nat.zero_le _, Nat.zero_le _⟩
  refine mm_after run hS fun r h1 H1 locs1 hq hP1 hS1 => ?_
  have k9 := k r h1 hq p e R s m args below meth c H1 locs1 ls F hl0 hP1 hS1
  rw [List.map_append] at k9
  cases r <;> exact k9
/-- a switch -/
theorem MM.tableOut {dflt lo hi : Int} {offs : Array Int} {len : Nat} {x : Int32} {tgt : Nat} (hx : x.toInt < lo ∨ hi < x.toInt) (hd : decode Y.2.1 pc = .ok (.tableswitch dflt lo hi offs, len)) (ht : (pc : Int) + dflt = (tgt : Int)) (k : MM V l Y d ck sk Z tgt lv st h) : MM V l Y d ck sk Z pc lv (.int x :: st) h := by
  intro p e R s m args below meth c H locs ls F hl hP hS
  exact lv_tableOut F.1 F.2.1 hd hx ht (k p e R s m args below meth c H locs ls F hl hP hS)
theorem MM.tableIn {dflt lo hi : Int} {offs : Array Int} {len : Nat} {x : Int32} (v : Int) {off : Int} {tgt : Nat} (hx : x.toInt = v) (h1 : ¬ v < lo ∧ ¬ hi < v) (hd : decode Y.2.1 pc = .ok (.tableswitch dflt lo hi offs, len)) (ho : offs[(v - lo).toNat]? = some off) (ht : (pc : Int) + off = (tgt : Int)) (k : MM V l Y d ck sk Z tgt lv st h) : MM V l Y d ck sk Z pc lv (.int x :: st) h := by
  subst hx
  intro p e R s m args below meth c H locs ls F hl hP hS
  exact lv_tableIn F.1 F.2.1 hd h1.1 h1.2 ho ht (k p e R s m args below meth c H locs ls F hl hP hS)
end MMK
