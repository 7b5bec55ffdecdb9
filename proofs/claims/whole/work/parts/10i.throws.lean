/-! THROWING: PaidSecrets.person and plot where they throw, PaidSecretsLaw.person and plot, which catch it -/
set_option maxRecDepth 100000 in
theorem ww_135 : Cond.initialized "java/util/NoSuchElementException" ∈ mm_gw := mm_gw_in (mm_ch1 (List.mem_of_getElem? (i := 26) (by rfl))) rfl
set_option maxRecDepth 100000 in
theorem ww_1248 : Cond.classLink RL 13 "java/util/NoSuchElementException" ∈ mm_gw := mm_gw_in (mm_ch5 (List.mem_of_getElem? (i := 179) (by rfl))) rfl
set_option maxRecDepth 100000 in
theorem ww_1253 : Cond.classLink RX11 137 "java/util/NoSuchElementException" ∈ mm_gw := mm_gw_in (mm_ch5 (List.mem_of_getElem? (i := 184) (by rfl))) rfl
theorem mx_fit : Bundle.fit NSE = true ∧ ∀ n ∈ mx_nm, Bundle.fit n = true := by decide +kernel
theorem mx_ot : ∀ w ∈ vx_at0 RX11 139 NSE mx_nm, vx_ot w = true := by decide +kernel
theorem mx_cd : ∀ w ∈ mx_ng, (match w with | .castable .. => true | .declares _ => true | _ => false) = true := by decide +kernel
theorem mx_cst : Cond.castable NSE NSE ∈ mx_ng := by decide +kernel
set_option maxRecDepth 100000 in
theorem mx_in : vx_at0 RX11 139 NSE mx_nm = ([(1, 23), (5, 206), (5, 215), (5, 217), (5, 220), (5, 222), (5, 207), (5, 208), (1, 34), (1, 35), (5, 209), (5, 214), (5, 218), (5, 234), (5, 196), (5, 235), (5, 198), (5, 236), (5, 200), (5, 210), (5, 212), (5, 202), (5, 224), (5, 225), (5, 226), (5, 227), (5, 187), (5, 227), (5, 228), (5, 229), (5, 230), (5, 189), (5, 230), (5, 231), (5, 232), (5, 207), (5, 191), (5, 223), (5, 185), (5, 186), (5, 193), (5, 194), (5, 195), (5, 197), (5, 199), (5, 201), (5, 205), (5, 204), (5, 203)] : List (Nat × Nat)).filterMap (fun q => if q.1 = 1 then tables_1_1[q.2]? else if q.1 = 5 then tables_1_5[q.2]? else tables_1_6[q.2]?) := by decide +kernel
theorem mx_inT : ∀ w ∈ vx_at0 RX11 139 NSE mx_nm, w ∈ lw_tbl := by
  intro w hw
  rw [mx_in] at hw
  obtain ⟨q, -, hq⟩ := List.mem_filterMap.mp hw
  by_cases h1 : q.1 = 1
  · rw [if_pos h1] at hq
    exact mm_ch1 (List.mem_of_getElem? hq)
  · rw [if_neg h1] at hq
    by_cases h5 : q.1 = 5
    · rw [if_pos h5] at hq
      exact mm_ch5 (List.mem_of_getElem? hq)
    · rw [if_neg h5] at hq
      exact mm_ch6 (List.mem_of_getElem? hq)
theorem mx_good1 {w : Cond} (h : goodWord w = true) : vx_ot w = true := by
  unfold vx_ot
  rw [h, Bool.or_true]
theorem mx_hat {args : Array Value} {s : State} (h1 : ∀ w ∈ mm_gw, w.before args s = true) (h2 : ∀ w ∈ mx_ng, va_Nw w s) : ∀ w ∈ vx_at0 RX11 139 NSE mx_nm, w.before args s = true := by
  intro w hw
  by_cases g : goodWord w = true
  · exact h1 w (mm_gw_in (mx_inT w hw) g)
  · have hm : w ∈ mx_ng := List.mem_filter.mpr ⟨hw, by cases hgw : goodWord w; rfl; exact absurd hgw g⟩
    have h := h2 w hm
    have hc := mx_cd w hm
    cases w <;> first | exact va_Nw.use rfl h | (exact absurd hc (by simp))
theorem mx_ngm {s U : State} (hW : s.WarmedH U.vm) (h : ∀ w ∈ mx_ng, va_Nw w s) : ∀ w ∈ mx_ng, va_Nw w U := by
  intro w hw
  have h1 := h w hw
  have h2 := mx_cd w hw
  cases w <;> first | exact va_Nw.warmC hW h1 | exact va_Nw.warmD hW h1 | (exact absurd h2 (by simp))
theorem mx_kept {V : mm_V} {h : mm_H} {H H1 : Heap} (hP : mm_P V h H) (hq : ∀ q : Nat, q < H.size → H1[q]? = H[q]?) : mm_P V h H1 := by
  intro a h1 h2
  have h0 := hP a h1 h2
  unfold mm_C at h0 ⊢
  by_cases ht : mm_tg a < 20
  · rw [if_pos ht] at h0 ⊢
    refine h0.kept ?_
    obtain ⟨cell, q1, -⟩ := h0
    exact hq _ (Array.getElem?_eq_some_iff.mp q1).1
  · rw [if_neg ht] at h0 ⊢
    rw [hq _ (Array.getElem?_eq_some_iff.mp h0).1]
    exact h0
theorem mx_T.moved {V : mm_V} {s U : State} (hW : s.WarmedH U.vm) (hq : ∀ a : Nat, a < s.heap.size → ¬ mm_fr V a → U.heap[a]? = s.heap[a]?) (h : mx_T V s) : mx_T V U :=
  ⟨vx_Zq.moved hW.alike (h.1.kept hq), vx_Zq.moved hW.alike (h.2.1.kept hq), mx_ngm hW h.2.2⟩
theorem mx_T.same {V : mm_V} {s U : State} (hv : U.vm = s.vm) (hh : U.heap = s.heap) (h : mx_T V s) : mx_T V U := by
  unfold mx_T
  rw [hh]
  refine ⟨vx_Zq.moved (by rw [hv]; exact Vm.Alike.refl _) h.1, vx_Zq.moved (by rw [hv]; exact Vm.Alike.refl _) h.2.1, mx_ngm ?_ h.2.2⟩
  rw [hv]
  exact State.WarmedH.refl s
def mx_Pc (V : mm_V) (h : mm_H) (av : List Value) : Array Value → State → Prop := va_Pc (av.map (mm_rv V)) (fun U => (mm_P V h U.heap ∧ mm_E V U U.heap) ∧ mx_T V U)
theorem mx_blind {V : mm_V} {h : mm_H} {av : List Value} : FrameBlind (mx_Pc V h av) :=
  fun a U g mk q => ⟨q.1, ⟨q.2.1.1, mm_E.same (s := U) rfl q.2.1.2⟩, mx_T.same (s := U) rfl rfl q.2.2⟩
def mx_Z (V : mm_V) (Q : Option Value → mm_H → Prop) (mc ms : Nat) : List Frame → Array Value → State → State → Prop := fun below args s => MQ below (mm_Q V Q) args s mc ms (mm_fr V)
/-- a method with a table of its own -/
def MX (V : mm_V) (l : Launch) (Y : mm_Y) (hh : List (Nat × Nat × Nat × Nat)) (d mc ms : Nat) (av : List Value) (Q : Option Value → mm_H → Prop) (h : mm_H) : Prop :=
  Met l Y.1 (Cond.codeWith Y.1 Y.2.1 Y.2.2.1 Y.2.2.2 hh :: mm_gw) { frames := d, cells := mc, slots := ms, locals := 60 * d } (mx_Pc V h av) (mm_Q V Q) mc ms (mm_fr V)
theorem mx_sl {V : mm_V} : ∀ av : List Value, (lg_sl (av.map (mm_rv V))).length = (lg_sl av).length := by
  intro av
  induction av with
  | nil => rfl
  | cons v vs ih =>
    have e2 : ∀ (w : Value) (ws : List Value), (lg_sl (w :: ws)).length = (lg_sl [w]).length + (lg_sl ws).length := by
      intro w ws
      simp [lg_sl]
    rw [List.map_cons, e2, ih, e2 v vs]
    cases v <;> rfl
theorem mx_ar {V : mm_V} : ∀ (av : List Value) (i : Nat), lv_args i (av.map (mm_rv V)) = (lv_args i av).map (mm_lp V) := by
  intro av
  induction av with
  | nil => intro i; rfl
  | cons v vs ih =>
    intro i
    simp only [List.map_cons, lv_args, ih, mm_rv_cat]
    rfl
theorem MX.intro {V : mm_V} {l : Launch} {Y : mm_Y} {hh : List (Nat × Nat × Nat × Nat)} {d mc ms : Nat} {av : List Value} {Q : Option Value → mm_H → Prop} {h : mm_H} (hy : plainName Y.1.cls = true) (lv : List (Nat × Value)) (hlv : lv_args 0 av = lv) (hn : (lg_sl av).length ≤ Y.2.2.1)
    (k : ML V l Y d mc ms (fun c => c.exceptionTable.toList = tableOf hh) 0 0 (mx_Z V Q mc ms) 0 lv [] h) : MX V l Y hh d mc ms av Q h := by
  refine va_MetW (cc := Y.2.1) (maxL := Y.2.2.1) (ret := Y.2.2.2) (hh := hh) hy rfl ?_
  intro p e s m args below meth c s₁ B hml hv
  obtain ⟨rfl, ⟨hP, hE⟩, hT⟩ := hv
  have hts := atoms_spec (ws := Cond.codeWith Y.1 Y.2.1 Y.2.2.1 Y.2.2.2 hh :: mm_gw) B.pre
  rw [lg_entry_eq]
  have hl := lv_entry (av.map (mm_rv V)) (n := Y.2.2.1) (by rw [mx_sl]; exact hn)
  rw [mx_ar, hlv] at hl
  exact k p e _ s m _ below meth c s.heap [] _ ⟨⟨B.exec, B.bytes, B.returns, B.notSynchronized, hml, findClass_of_methodNamed B.named, fun w hw => hts w (List.mem_cons_of_mem _ hw), hE, ⟨Nat.le_refl _, Nat.le_refl _⟩, Nat.le_refl _, Nat.le_refl _⟩, hT, ⟨Nat.zero_le _, Nat.zero_le _⟩, vx_table (x := Y.1) B (hts _ List.mem_cons_self)⟩ hl hP va_S.rf
/-- where a method throws, and nothing is written -/
def mx_XC (V : mm_V) (h : mm_H) : String → State → State → Prop := fun E st t => E = NSE ∧ mm_P V h t.heap ∧ va_F (mm_fr V) st t
def MY (V : mm_V) (l : Launch) (Y : mm_Y) (d : Nat) (av : List Value) (h : mm_H) : Prop :=
  vx_Met l Y.1 (Cond.code Y.1 Y.2.1 Y.2.2.1 Y.2.2.2 :: mm_gw) { frames := d, cells := 1, slots := 6, locals := 60 * d } (mx_Pc V h av) (fun _ _ _ _ => False) (mx_XC V h) 1 6 (mm_fr V)
def mx_Zt (V : mm_V) (h : mm_H) : List Frame → Array Value → State → State → Prop := fun below args s => vx_MQ below (fun _ _ _ _ => False) (mx_XC V h) args s 1 6 (mm_fr V)
def mx_no (c : Code) : Prop := ∀ x ∈ c.exceptionTable.toList, False
theorem MY.intro {V : mm_V} {l : Launch} {Y : mm_Y} {d : Nat} {av : List Value} {h : mm_H} (hy : plainName Y.1.cls = true) (lv : List (Nat × Value)) (hlv : lv_args 0 av = lv) (hn : (lg_sl av).length ≤ Y.2.2.1)
    (k : ML V l Y d 1 6 mx_no 0 0 (mx_Zt V h) 0 lv [] h) : MY V l Y d av h := by
  refine vx_ofW (cc := Y.2.1) (maxL := Y.2.2.1) (ret := Y.2.2.2) hy rfl ?_
  intro p e s m args below meth c s₁ B hml htb hv
  obtain ⟨rfl, ⟨hP, hE⟩, hT⟩ := hv
  have hts := atoms_spec (ws := Cond.code Y.1 Y.2.1 Y.2.2.1 Y.2.2.2 :: mm_gw) B.pre
  rw [lg_entry_eq]
  have hl := lv_entry (av.map (mm_rv V)) (n := Y.2.2.1) (by rw [mx_sl]; exact hn)
  rw [mx_ar, hlv] at hl
  exact k p e _ s m _ below meth c s.heap [] _ ⟨⟨B.exec, B.bytes, B.returns, B.notSynchronized, hml, findClass_of_methodNamed B.named, fun w hw => hts w (List.mem_cons_of_mem _ hw), hE, ⟨Nat.le_refl _, Nat.le_refl _⟩, Nat.le_refl _, Nat.le_refl _⟩, hT, ⟨Nat.zero_le _, Nat.zero_le _⟩, htb⟩ hl hP va_S.rf
section MLT
variable {V : mm_V} {l : Launch} {Y : mm_Y} {d C S ck sk : Nat} {Kc : Code → Prop} {Z : List Frame → Array Value → State → State → Prop} {pc n : Nat} {lv lv' : List (Nat × Value)} {st : List Value} {h h' : mm_H} {Q : Option Value → mm_H → Prop} {v : Value}
/-- throw new NoSuchElementException() -/
theorem ML.throw0 (hl9 : l.stackTraces = false) (hd10 : 10 ≤ d) (hY : Y.1.cls = RX11) (d0 : decode Y.2.1 pc = .ok (.new 137, 3)) (d3 : decode Y.2.1 (pc + 3) = .ok (.dup, 1)) (d4 : decode Y.2.1 (pc + 4) = .ok (.invokespecial 139, 3)) (d7 : decode Y.2.1 (pc + 7) = .ok (.athrow, 1)) :
    ML V l Y d 1 6 mx_no 0 0 (mx_Zt V h) pc lv [] h := by
  intro p e R s m args below meth c H locs ls F hl hP hS
  obtain ⟨F1, F2, F3, F4⟩ := F
  have hfr := F1.2.2.2.2.2.2.2.2.1
  refine vx_throw0 (own := RX11) (cls := NSE) (names := mx_nm) (ik := 137) (ic := 139) F1.1 F1.2.1 hl9 (by rw [← hY]; exact F1.2.2.2.2.2.1) mx_fit.1 mx_fit.2 (F1.2.2.2.2.2.2.1 _ ww_1253) (F1.2.2.2.2.2.2.1 _ ww_135) (mx_hat F1.2.2.2.2.2.2.1 F2.2.2) ?_ F2.1 F2.2.1 hS (hl.1.trans F1.2.2.2.2.1.symm) d0 d3 d4 d7 (fun x hx => (F4 x hx).elim) ?_ ?_ ?_ ?_ F1.2.2.2.1 ?_ hS.2.2 (by omega) (by omega)
  · intro w hw
    rcases List.mem_cons.mp hw with rfl | hw
    · exact mx_good1 rfl
    · rcases List.mem_cons.mp hw with rfl | hw
      · exact mx_good1 rfl
      · exact mx_ot w hw
  · show 2 + 3 < R.frames
    omega
  · show ([] : List Nat).sum + (13 * (2 + 1) + 42) ≤ R.locals
    simp only [List.sum_nil]
    omega
  · exact F1.2.2.2.2.2.2.2.2.2.1
  · exact F1.2.2.2.2.2.2.2.2.2.2
  · intro t hal hz hk
    refine ⟨rfl, mx_kept hP hk, Nat.le_trans hS.1 hz, fun q h1 h2 => ?_⟩
    rw [hk q (Nat.lt_of_lt_of_le h1 hS.1)]
    exact hS.2.1 q h1 h2
theorem ML.iretX {mc ms : Nat} {x : Int32} (hck : ck ≤ mc) (hsk : sk ≤ ms) (hr : Y.2.2.2 = some .int) (hd : decode Y.2.1 pc = .ok (.ireturn, 1)) (hQ : Q (some (.int x)) h) : ML V l Y d C S Kc ck sk (mx_Z V Q mc ms) pc lv [.int x] h := by
  intro p e R s m args below meth c H locs ls F hl hP hS
  exact W.widen hck hsk (W.iret (mx_dn F).1 (mx_dn F).2.1 ((mx_dn F).2.2.1.trans hr) (fun t ht hW => ⟨⟨some (.int x), h, rfl, hQ, by rw [ht]; exact hP⟩, hS.F ht⟩) hS.2.2 hd (mx_dn F).2.2.2.1)
theorem mx_pre {p : Program} {R : Room} {s : State} {m : MethodId} {args : Array Value} {meth : Method} {c : Code} {H : Heap} {locs : List Loc} (F : mx_F V Y d C S ck sk Kc p R s m args meth c) (hP : mm_P V h H) (hS : va_S (mm_fr V) s.heap H locs) (av : List Value) : ∀ U : State, U.heap = H → s.WarmedH U.vm → mx_Pc V h av (av.map (mm_rv V)).toArray U := by
  intro U hU hW
  refine ⟨rfl, ⟨by rw [hU]; exact hP, ?_⟩, mx_T.moved hW (by rw [hU]; exact hS.2.1) F.2.1⟩
  rw [hU]
  exact mm_E.moved hW hS.2.1 F.1.2.2.2.2.2.2.2.1
/-- a call that throws, caught here -/
theorem ML.callVX {hh : List (Nat × Nat × Nat × Nat)} {Y2 : mm_Y} {b t d2 np index hp : Nat} {As stk : List Value} (hT : MY V l Y2 d2 (.ref b :: As) h) (hY : Y.1.cls = RL) (hc : mm_callee Y2 np) (hnp : As.length = np) (ht : mm_tg b = t) (hcl : t < 10 ∧ (mm_cl.getD t (RX0, TX0, 0)).1 = Y2.1.cls) (hsel : Cond.selects Y2.1.cls Y2.1 Y2.1 ∈ mm_gw) (hin : Cond.instanceMethod Y2.1 ∈ mm_gw) (hl : Cond.methodLink Y.1.cls index Y2.1 ∈ mm_gw) (hd2 : d2 + 1 ≤ d) (hcat : (st.map fun v => v.category).sum ≤ 8)
    (hd : decode Y.2.1 pc = .ok (.invokevirtual index, 3)) (hstk : As.reverse ++ .ref b :: st = stk) (hC : ck + 1 ≤ C) (hS9 : sk + 6 ≤ S) (hhp : tableOf hh = [⟨0, hp, hp + 3, 13⟩]) (hpc : pc < hp)
    {i : Nat} (hi : i < Y.2.2.1) (hda : decode Y.2.1 (hp + 3) = .ok (.astore i, 2)) (hn : hp + 5 = n) (k : ML V l Y d C S (fun c => c.exceptionTable.toList = tableOf hh) (ck + 1) (sk + 6) Z n [] [] h) : ML V l Y d C S (fun c => c.exceptionTable.toList = tableOf hh) ck sk Z pc lv stk h := by
  subst hn; subst hstk; subst hnp
  intro p e R s m args below meth c H locs ls F hl0 hP hS
  have hr := mm_rcv (mx_dn F) hP ht hcl.1
  rw [hcl.2] at hr
  have F1 := F.1
  have hR := F1.2.2.2.2.2.2.2.2.1
  have cw : CallB R s args Y.1.cls index Y2.1 Y2.2.1 Y2.2.2.1 Y2.2.2.2 (Cond.code Y2.1 Y2.2.1 Y2.2.2.1 Y2.2.2.2 :: mm_gw) { frames := d2, cells := 1, slots := 6, locals := 60 * d2 } 1 6 As.length := by
    refine callB_of (Ts := mm_gw) As.length F1.2.2.2.2.2.2.1 (mm_gw_good hc.1) rfl rfl rfl (F1.2.2.2.2.2.2.1 _ hc.2.1) (F1.2.2.2.2.2.2.1 _ hl) hc.2.2.1 ⟨?_, ?_⟩
    · show d2 + 1 ≤ R.frames; omega
    · show 8 + (Y2.2.2.1 + 11) + 60 * d2 ≤ R.locals
      have := hc.2.2.2
      omega
  have run : vx_Run p l e R s m args below meth c H locs ck sk 1 6 (F0 m pc ls ((As.reverse ++ .ref b :: st).map (mm_rv V))) (st.map (mm_rv V)) ((fun _ _ _ _ => False : Array Value → State → Outcome → State → Prop) ((.ref b :: As).map (mm_rv V)).toArray) (mx_XC V h) (mm_fr V) := vx_runV (H := H) (locs := locs) (cells := ck) (slots := sk) (g := F0 m pc ls ((As.reverse ++ .ref b :: st).map (mm_rv V))) (b := V.1 b) (As := As.map (mm_rv V)) (rest := st.map (mm_rv V)) (C := Y2.1.cls) (mm_fix F1) hT ⟨cw, F1.2.2.2.2.2.2.1 _ hin, F1.2.2.2.2.2.2.1 _ hsel⟩
    ⟨mx_blind, hr, mx_pre F hP hS (.ref b :: As)⟩ rfl (List.length_map ..) hl0.1 (by simp [F0, mm_rv]) (lv_room (by rw [List.map_map]; have e9 : (fun v => Value.category v) ∘ mm_rv V = fun v => Value.category v := funext fun v => mm_rv_cat V v; rw [e9]; exact hcat)) hd ⟨Nat.le_trans hC F1.2.2.2.2.2.2.2.2.2.1, Nat.le_trans hS9 F1.2.2.2.2.2.2.2.2.2.2⟩
  intro T hT9 X
  rcases run T hT9 X with ⟨_, _, _, _, _, _, _, _, _, _, hq, _⟩ | ⟨q, st₀, t9, T', L, E, ce, h0, X', hL, e1, e2, ⟨hE, hp1, hz, hk⟩, hce, hcv, hcl9, stp⟩
  · exact hq.elim
  · subst hE
    rw [h0] at hz hk
    have hS1 : va_S (mm_fr V) s.heap T'.heap (locs ++ L) := ⟨Nat.le_trans hS.1 (by rw [e1]; exact hz), fun q h1 h2 => by rw [e1, hk q (Nat.lt_of_lt_of_le h1 hS.1) h2]; exact hS.2.1 q h1 h2, fun q hq => by
      rcases List.mem_append.mp hq with h | h
      · exact hS.2.2 q h
      · exact hL q h⟩
    have kk : W p l e R s m args below meth c T'.heap (locs ++ L) (ck + 1) (sk + 6) (Z below args s) (F0 m (hp + 3) ls [.ref q]) := by
      refine lv_astore F1.1 F1.2.1 hda (lv_sub hl0 [] rfl) hi rfl (fun ls' hl' => ?_)
      exact k p e R s m args below meth c T'.heap (locs ++ L) ls' ⟨F.1, F.2.1, ⟨hC, hS9⟩, F.2.2.2⟩ (lv_sub hl' [] rfl) (by rw [e1]; exact hp1) hS1
    have hcat9 := vx_catch (own := RL) (name := NSE) (E := NSE) (ce := ce) (q := q) (pc := pc) (ls := ls) (rest := st.map (mm_rv V)) (by rw [← hY]; exact F1.2.2.2.2.2.1) [] ⟨0, hp, hp + 3, 13⟩ [] (F.2.2.2.trans hhp) (fun z hz => nomatch hz) (by unfold covers; simp; omega) (by show (13 : Nat) ≠ 0; decide) (F1.2.2.2.2.2.2.1 _ ww_1248) (va_Nw.use rfl (F.2.1.2.2 _ mx_cst)) (H := T'.heap) (by rw [e1]; exact hce) hcv hcl9 kk
    obtain ⟨t2, a1, b1⟩ := hcat9 T' rfl X'
    exact ⟨t2, stp.trans a1, b1⟩
/-- a static call of a method with a table -/
theorem ML.callSX {hh : List (Nat × Nat × Nat × Nat)} {Y2 : mm_Y} {d2 mc ms np index : Nat} {As stk : List Value} (hT : MX V l Y2 hh d2 mc ms As Q h) (hQ : ∀ r1 h1, Q r1 h1 → r1 = some v ∧ h1 = h') (hcw : Cond.codeWith Y2.1 Y2.2.1 Y2.2.2.1 Y2.2.2.2 hh ∈ mm_gw) (hini : Cond.initialized Y2.1.cls ∈ mm_gw) (hdd : Y2.1.cls ≠ "java/lang/invoke/MethodHandle" ∧ Y2.1.cls ≠ "java/lang/invoke/VarHandle" ∧ (parseMethodDescriptor Y2.1.desc).map (fun d => d.parameters.length) = some np) (hml : Y2.2.2.1 ≤ 41) (hnp : As.length = np) (hstt : Cond.static Y2.1 ∈ mm_gw) (hl : Cond.methodLink Y.1.cls index Y2.1 ∈ mm_gw) (hd2 : d2 + 1 ≤ d) (hcat : (st.map fun v => v.category).sum ≤ 8)
    (hd : decode Y.2.1 pc = .ok (.invokestatic index, 3)) (hstk : As.reverse ++ st = stk) (hC : ck + mc ≤ C) (hS9 : sk + ms ≤ S) (hn : pc + 3 = n) (k : ML V l Y d C S Kc (ck + mc) (sk + ms) Z n lv (v :: st) h') : ML V l Y d C S Kc ck sk Z pc lv stk h := by
  subst hn; subst hstk; subst hnp
  intro p e R s m args below meth c H locs ls F hl0 hP hS
  have F1 := F.1
  have hR := F1.2.2.2.2.2.2.2.2.1
  have ht := F1.2.2.2.2.2.2.1
  have cw : vx_CSW R s args Y.1.cls index Y2.1 Y2.2.1 Y2.2.2.1 Y2.2.2.2 hh (Cond.codeWith Y2.1 Y2.2.1 Y2.2.2.1 Y2.2.2.2 hh :: mm_gw) { frames := d2, cells := mc, slots := ms, locals := 60 * d2 } mc ms As.length := by
    refine ⟨⟨rfl, rfl, ?_, ?_, pay_in ht (mm_gw_good hcw), List.mem_cons_self⟩, ht _ hcw, ht _ hini, ⟨hdd.1, hdd.2.1⟩, fun sig h => ?_, ht _ hl, ht _ hstt⟩
    · show d2 + 1 ≤ R.frames; omega
    · show 8 + (Y2.2.2.1 + 11) + 60 * d2 ≤ R.locals
      omega
    · have h2 := hdd.2.2
      rw [h] at h2
      exact (Option.some.inj h2).symm
  have run : va_Run p l e R s m args below meth c H locs ck sk mc ms (F0 m pc ls ((As.reverse ++ st).map (mm_rv V))) (st.map (mm_rv V)) (mm_Q V Q (As.map (mm_rv V)).toArray) (mm_fr V) := vx_runSW (H := H) (locs := locs) (cells := ck) (slots := sk) (g := F0 m pc ls ((As.reverse ++ st).map (mm_rv V))) (As := As.map (mm_rv V)) (rest := st.map (mm_rv V)) (mm_fix F1) hT cw
    ⟨mx_blind, mx_pre F hP hS As⟩ rfl (List.length_map ..) hl0.1 (by simp [F0]) (lv_room (by rw [List.map_map]; have e9 : (fun v => Value.category v) ∘ mm_rv V = fun v => Value.category v := funext fun v => mm_rv_cat V v; rw [e9]; exact hcat)) hd ⟨Nat.le_trans hC F1.2.2.2.2.2.2.2.2.2.1, Nat.le_trans hS9 F1.2.2.2.2.2.2.2.2.2.2⟩
  refine mm_afterm run hS fun r h1 H1 locs1 hq hP1 hS1 => ?_
  obtain ⟨rfl, rfl⟩ := hQ r h1 hq
  exact k p e R s m args below meth c H1 locs1 ls ⟨F.1, F.2.1, ⟨hC, hS9⟩, F.2.2.2⟩ hl0 hP1 hS1
end MLT
