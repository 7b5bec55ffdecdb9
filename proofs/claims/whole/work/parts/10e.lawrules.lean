/-! RULES FOR THE LAW'S LOOP: calls where cells were made before, methods that make cells, the law's end -/
def mm_LZ (V : mm_V) : List Frame → Array Value → State → State → Prop := fun below args s t => V.1 32 = s.heap.size → lw_Z below args s t
theorem lw_retG {p : Program} {l : Launch} {e : Env} {R : Room} {s : State} {m : MethodId} {args : Array Value} {below : List Frame} {meth : Method} {c : Code} (hx : p.tables.exec = Jvm.exec) (hb : c.code = code) (hr : meth.sig.returnType = ret) (hlocks : meth.locks = false) {pc : Nat} {H : Heap} {ls : Array Slot} (hdg : decode code pc = .ok (.ireturn, 1)) : W p l e R s m args below meth c H [] 601024 7293034 (lw_Z below args s) (F0 m pc ls [.int 1]) := by
  intro T hT X
  obtain ⟨fs, hret, hrun, hended, hW, hframe⟩ := X.leave (v := some (.int 1)) (hlocks := hlocks) (fun h => by rw [hr] at h; cases h)
  have hmeth' : T.vm.method? m = some meth := X.method'
  refine ⟨T.setFrames fs, ?_, .returned (some (.int 1)), hrun, hended, rfl, ⟨_, rfl⟩, hW, hframe⟩
  jvm_step X.here [X.here.top, hx, hb, hdg, hmeth', hr, ret, narrow_b1]
  (try refine ⟨rfl, ?_⟩); (try refine ⟨rfl, ?_⟩)
  first | (intro acts; rw [hret _ acts rfl rfl rfl]) | rw [hret _ _ rfl rfl rfl]
  exact Steps.refl _
def MTm (V : mm_V) (l : Launch) (Y : mm_Y) (d mc ms : Nat) (av : List Value) (Q : Option Value → mm_H → Prop) (h : mm_H) : Prop :=
  Met l Y.1 (Cond.code Y.1 Y.2.1 Y.2.2.1 Y.2.2.2 :: mm_gw) { frames := d, cells := mc, slots := ms, locals := 60 * d } (va_Pc (av.map (mm_rv V)) (fun U => mm_P V h U.heap ∧ mm_E V U U.heap)) (mm_Q V Q) mc ms (mm_fr V)
section LR
variable {V : mm_V} {l : Launch} {Y : mm_Y} {d ck sk : Nat} {Z : List Frame → Array Value → State → State → Prop} {pc n : Nat} {lv : List (Nat × Value)} {st : List Value} {h h' : mm_H} {Q : Option Value → mm_H → Prop} {v : Value}
theorem MM.lwret (hck : ck ≤ 601024) (hsk : sk ≤ 7293034) (hd : decode code pc = .ok (.ireturn, 1)) : MM V l Y_L_law d ck sk (mm_LZ V) pc lv [.int 1] h := by
  intro p e R s m args below meth c H locs ls F hl hP hS T hT X
  by_cases hv : V.1 32 = s.heap.size
  · have k : W p l e R s m args below meth c H locs ck sk (lw_Z below args s) (F0 m pc ls [.int 1]) := by
      refine va_forget (fun q hq => ?_) (W.widen (k := 601024) (n := 7293034) hck hsk (lw_retG F.1 F.2.1 F.2.2.1 F.2.2.2.1 hd))
      have := hS.2.2 q hq
      rw [← hv]
      exact this
    obtain ⟨t, a1, b1⟩ := k T hT X
    exact ⟨t, a1, fun _ => b1⟩
  · exact ⟨_, Steps.refl _, fun q => absurd q hv⟩
theorem mm_afterm {p : Program} {e : Env} {R : Room} {s : State} {m : MethodId} {args : Array Value} {below : List Frame} {meth : Method} {c : Code} {H : Heap} {locs : List Loc} {ls : Array Slot} {Qw : State → Prop} {rest st0 : List Value} {a : Array Value} {cells slots mc ms : Nat} (hr : va_Run p l e R s m args below meth c H locs cells slots mc ms (F0 m pc ls st0) rest (mm_Q V Q a) (mm_fr V)) (hS : va_S (mm_fr V) s.heap H locs)
    (kk : ∀ (r : Option Value) (h1 : mm_H) (H1 : Heap) (locs1 : List Loc), Q r h1 → mm_P V h1 H1 → va_S (mm_fr V) s.heap H1 locs1 → W p l e R s m args below meth c H1 locs1 (cells + mc) (slots + ms) Qw (F0 m (pc + 3) ls ((r.map (mm_rv V)).toList ++ rest))) : W p l e R s m args below meth c H locs cells slots Qw (F0 m pc ls st0) := by
  intro T hT X
  obtain ⟨v, st₀, t, T', L, h0, X', hL, e1, e2, ⟨⟨r, h1, hv, hq, hp⟩, hz, hk⟩, st⟩ := hr T hT X
  cases hv
  rw [h0] at hz hk
  obtain ⟨t2, a1, b1⟩ := kk r h1 T'.heap (locs ++ L) hq (by rw [e1]; exact hp)
    ⟨Nat.le_trans hS.1 (by rw [e1]; exact hz), fun q h1 h2 => by rw [e1, hk q (Nat.lt_of_lt_of_le h1 hS.1) h2]; exact hS.2.1 q h1 h2, fun q hq => by
      rcases List.mem_append.mp hq with h | h
      · exact hS.2.2 q h
      · exact hL q h⟩ T' rfl X'
  exact ⟨t2, st t2 a1, b1⟩
/-- a call of an object's method, where cells were made before -/
theorem MM.callV1g {Y2 : mm_Y} {b t d2 np index : Nat} {As stk : List Value} (hT : MT V l Y2 d2 (.ref b :: As) Q h) (hQ : ∀ r1 h1, Q r1 h1 → r1 = some v ∧ h1 = h') (hc : mm_callee Y2 np) (hnp : As.length = np) (ht : mm_tg b = t) (hcl : t < 10 ∧ (mm_cl.getD t (RX0, TX0, 0)).1 = Y2.1.cls) (hsel : Cond.selects Y2.1.cls Y2.1 Y2.1 ∈ mm_gw) (hin : Cond.instanceMethod Y2.1 ∈ mm_gw) (hl : Cond.methodLink Y.1.cls index Y2.1 ∈ mm_gw) (hd2 : d2 + 1 ≤ d) (hcat : (st.map fun v => v.category).sum ≤ 8)
    (hd : decode Y.2.1 pc = .ok (.invokevirtual index, 3)) (hstk : As.reverse ++ .ref b :: st = stk) (hn : pc + 3 = n) (k : MM V l Y d ck sk Z n lv (v :: st) h') : MM V l Y d ck sk Z pc lv stk h := by
  subst hn; subst hstk; subst hnp
  intro p e R s m args below meth c H locs ls F hl0 hP hS
  have hr := mm_rcv F hP ht hcl.1
  rw [hcl.2] at hr
  have run : va_Run p l e R s m args below meth c H locs ck sk 0 0 (F0 m pc ls ((As.reverse ++ .ref b :: st).map (mm_rv V))) (st.map (mm_rv V)) (mm_Q V Q ((.ref b :: As).map (mm_rv V)).toArray) (mm_fr V) := va_runV (H := H) (locs := locs) (cells := ck) (slots := sk) (g := F0 m pc ls ((As.reverse ++ .ref b :: st).map (mm_rv V))) (b := V.1 b) (As := As.map (mm_rv V)) (rest := st.map (mm_rv V)) (C := Y2.1.cls) (mm_fix F) hT ⟨mm_cb F hc hl hd2, F.2.2.2.2.2.2.1 _ hin, F.2.2.2.2.2.2.1 _ hsel⟩
    ⟨mm_blind, hr, mm_pre F hP hS (.ref b :: As)⟩ rfl (List.length_map ..) hl0.1 (by simp [F0, mm_rv]) (lv_room (by rw [List.map_map]; have e9 : (fun v => Value.category v) ∘ mm_rv V = fun v => Value.category v := funext fun v => mm_rv_cat V v; rw [e9]; exact hcat)) hd ⟨F.2.2.2.2.2.2.2.2.2.1, F.2.2.2.2.2.2.2.2.2.2⟩
  refine mm_after run hS fun r h1 H1 locs1 hq hP1 hS1 => ?_
  obtain ⟨rfl, rfl⟩ := hQ r h1 hq
  exact k p e R s m args below meth c H1 locs1 ls F hl0 hP1 hS1
end LR
