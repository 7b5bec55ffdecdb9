/-! V, AND mm_E AT THE START -/
theorem mw_fields (t : Nat) (ht : t < 10) : mm_lays t := by
  have : t = 0 ∨ t = 1 ∨ t = 2 ∨ t = 3 ∨ t = 4 ∨ t = 5 ∨ t = 6 ∨ t = 7 ∨ t = 8 ∨ t = 9 := by omega
  rcases this with rfl | rfl | rfl | rfl | rfl | rfl | rfl | rfl | rfl | rfl
  · exact lays_0
  · exact lays_1
  · exact lays_2
  · exact lays_3
  · exact lays_4
  · exact lays_5
  · exact lays_6
  · exact lays_7
  · exact lays_8
  · exact lays_9
theorem mw_prim {args : Array Value} {s : State} {ty : FieldType} (hp : va_RA s = va_RA s) (h : (Cond.arrayClass ty).before args s = true) : ∃ c, s.vm.findClass ("[" ++ ty.toString) = some c ∧ ArrOfT s c ty := by
  obtain ⟨c, k, comp, h1, h2, h3⟩ := Cond.arrayClass_spec h
  exact ⟨c, h1, fun n z => ⟨fun q e => (by cases e), k, h2, comp, h3⟩⟩
theorem mw_obj {args : Array Value} {s : State} {C : String} (h : (Cond.arrayOver (.object C)).before args s = true) : ∃ c, ArrOfT s c (.object C) ∧ va_RA s c (.object C) := by
  obtain ⟨comp, c, k, h1, -, h3, h4, h5⟩ := Cond.arrayOver_spec h
  exact ⟨c, fun n z => ⟨fun q e => (by cases e), k, h3, comp, h4⟩, k, comp, h3, h4, h1, h5⟩
theorem mm_start {s : State} {b L : Nat} {xs : Nat → Int32} (hts : ∀ w ∈ lw_tbl, w.before #[Value.ref b] s = true) (hgv : (Jvm.Cond.and given_1 narrow_1).before #[Value.ref b] s = true) (hX : va_X b L xs s s.heap) (hbl : b < s.heap.size) (hL : L ≤ 3584) :
    ∃ V : mm_V, V.1 31 = b ∧ V.1 32 = s.heap.size ∧ V.2.2.2 = (L, xs) ∧ mm_E V s s.heap ∧ va_AO "PaidSecrets$State" s ∧ va_AO "PaidSecrets$Talk" s := by
  have hs : ∀ c ∈ mw_F, c.before #[Value.ref b] s = true := flat_of_before _ hgv
  -- the words
  have h0 : ∀ j : Nat, ∃ a : Nat, j < 28 → (Term.static "PaidSecrets$Word" (mm_wn j) "LPaidSecrets$Word;").eval #[Value.ref b] s none [] s = some (.ref a) ∧ a < s.heap.size := by
    intro j
    by_cases hj : j < 28
    · obtain ⟨a, c, cA, kA, q1, q2, q3, -⟩ := Cond.exactly_spec (args := #[Value.ref b]) (first := s) (o := none) (s := s) (idx := []) (hs _ (mw_exact j hj))
      exact ⟨a, fun _ => ⟨q1, (Array.getElem?_eq_some_iff.mp q3).1⟩⟩
    · exact ⟨0, fun h => absurd h hj⟩
  obtain ⟨ad, had⟩ := Classical.axiomOfChoice h0
  -- WORDS, the text
  obtain ⟨tw, htw, hTw⟩ := va_Tof (f := fun j => .ref (ad j)) (A := fun q => s.heap.size ≤ q) (N := 28) (by decide) (hs _ mw_1.1) (va_eqt (hs _ mw_1.2.1)) (fun j hj => mw_eq (hs _ (mw_elem j hj)) (had j hj).1) (fun a h q => by omega)
  obtain ⟨sa, sc, scA, skA, sq1, sq2, sq3, sq4, sq5, sq6, -⟩ := Cond.exactly_spec (args := #[Value.ref b]) (first := s) (o := none) (s := s) (idx := []) (hs _ mw_3.1)
  obtain ⟨sb, hsb, hTs⟩ := va_Tof (f := fun j => .int (mm_byt.getD j 0)) (A := fun q => s.heap.size ≤ q) (N := 8) (by decide) (hs _ mw_3.2.2.1) (va_eqt (hs _ mw_3.2.2.2.1)) (fun j hj => va_eqt (hs _ (mw_3.2.2.2.2 j hj))) (fun a h q => by omega)
  -- classes, arrays
  have hk0 : ∀ t : Nat, ∃ q : ClassId × (Nat → Nat), t < 10 → u_Kn s (mm_cl.getD t (RX0, TX0, 0)).1 (mm_cl.getD t (RX0, TX0, 0)).2.1 (mm_cl.getD t (RX0, TX0, 0)).2.2 q.1 q.2 := by
    intro t
    by_cases ht : t < 10
    · obtain ⟨cC, iS, hk⟩ := u_known (N := (mm_cl.getD t (RX0, TX0, 0)).2.2) hts (fun w hw => (List.mem_filter.mp (mw_fields t ht w hw)).1) (hts _ (mw_5 t ht))
      exact ⟨(cC, iS), fun _ => hk⟩
    · exact ⟨(0, fun _ => 0), fun h => absurd h ht⟩
  obtain ⟨kk, hkk⟩ := Classical.axiomOfChoice hk0
  obtain ⟨c20, g20, r20⟩ := mw_prim rfl (hts _ mw_4.1)
  obtain ⟨c21, g21, r21⟩ := mw_prim rfl (hts _ mw_4.2.1)
  obtain ⟨c22, g22, r22⟩ := mw_prim rfl (hts _ mw_4.2.2.1)
  obtain ⟨c23, g23, r23⟩ := mw_prim rfl (hts _ mw_4.2.2.2.1)
  obtain ⟨c24, r24, g24⟩ := mw_obj (hts _ mw_4.2.2.2.2.1)
  obtain ⟨c25, r25, g25⟩ := mw_obj (hts _ mw_4.2.2.2.2.2)
  obtain ⟨scr, sx1, sx2, sx3, sx4, sx5⟩ := hX
  refine ⟨(fun a => if a < 28 then ad a else if a = 28 then tw else if a = 29 then sa else if a = 30 then sb else if a = 31 then b else s.heap.size + (a - 32),
    fun t => if t < 10 then (kk t).1 else if t = 20 then c20 else if t = 21 then c21 else if t = 22 then c22 else if t = 23 then c23 else if t = 24 then c24 else c25, fun t => (kk t).2, L, xs), rfl, rfl, rfl, ?_, hts _ mw_4.2.2.2.2.1, hts _ mw_4.2.2.2.2.2⟩
  have hW : ∀ j, j < 28 → (if j < 28 then ad j else if j = 28 then tw else if j = 29 then sa else if j = 30 then sb else if j = 31 then b else s.heap.size + (j - 32)) = ad j := fun j hj => if_pos hj
  have lt1 : tw < s.heap.size := by obtain ⟨cell, q, -⟩ := hTw; exact (Array.getElem?_eq_some_iff.mp q).1
  have lt2 : sa < s.heap.size := (Array.getElem?_eq_some_iff.mp sq3).1
  have lt3 : sb < s.heap.size := by obtain ⟨cell, q, -⟩ := hTs; exact (Array.getElem?_eq_some_iff.mp q).1
  have hof : ∀ j, j < 28 → va_OF "PaidSecrets$Word" "code" "J" (.long (mm_wc j)) (ad j) (fun q => s.heap.size ≤ q) s s.heap := fun j hj => vk_OFof (had j hj).1 (va_eqtl (hs _ (mw_code j hj))) (fun a h q => by omega)
  refine ⟨⟨fun a ha => ?_, fun i j hi hj e => ?_, fun i hi => ?_⟩, ⟨fun c q hq => ?_, fun k q hq => ?_⟩, fun w hw => ?_, fun j hj => ?_, ?_, fun j hj => ⟨?_, ?_⟩, ?_, ?_, ?_, ?_, ?_⟩
  · show (if a < 28 then ad a else if a = 28 then tw else if a = 29 then sa else if a = 30 then sb else if a = 31 then b else s.heap.size + (a - 32)) = s.heap.size + (32 - 32) + (a - 32)
    rw [if_neg (by omega), if_neg (by omega), if_neg (by omega), if_neg (by omega), if_neg (by omega)]
    rfl
  · have e : ad i = ad j := by
      have h1 := hW i hi
      have h2 := hW j hj
      exact h1.symm.trans (Eq.trans e h2)
    obtain ⟨cf, k, fi, f, cell, p1, p2, p3, p4, p5, p6⟩ := hof i hi
    obtain ⟨cf', k', fi', f', cell', r1, r2, r3, r4, r5, r6⟩ := hof j hj
    have hf := p1.symm.trans r1
    have hff : f = f' := by have := Option.some.inj hf; simp at this; exact this.2.2.2
    rw [e] at p3
    cases p3.symm.trans r3
    subst hff
    have := p5.symm.trans r5
    exact mw_wcinj i hi j hj (by simpa using this)
  · show (if i < 28 then ad i else _) < s.heap.size + (32 - 32)
    split
    · rename_i h; have := (had i h).2; omega
    · split
      · omega
      · split
        · omega
        · split
          · omega
          · split
            · omega
            · omega
  · have hc : c < 10 := (List.getElem?_eq_some_iff.mp hq).1
    have hq2 : q = mm_cl.getD c (RX0, TX0, 0) := Option.some.inj (hq.symm.trans (mm_getD hc))
    subst hq2
    show u_Kn s _ _ _ (if c < 10 then (kk c).1 else _) ((kk c).2)
    rw [if_pos hc]
    exact hkk c hc
  · match k, hq with
    | 0, hq => cases hq; exact ⟨r20, g20⟩
    | 1, hq => cases hq; exact ⟨r21, g21⟩
    | 2, hq => cases hq; exact ⟨r22, g22⟩
    | 3, hq => cases hq; exact ⟨r23, g23⟩
    | 4, hq => cases hq; exact ⟨r24, g24⟩
    | 5, hq => cases hq; exact ⟨r25, g25⟩
    | k + 6, hq => simp at hq
  · have h1 := List.mem_filter.mp hw
    have h2 := h1.2
    have h3 := hts _ h1.1
    cases w <;> first | exact va_Nw.of rfl h3 | (exact absurd h2 (by simp))
  · show va_Z _ _ _ (.ref (if j < 28 then _ else _)) _ _ _
    rw [if_pos hj]
    exact va_Zof (hts _ (mw_lay j hj)) (hts _ mw_2.2.2.2.1) (had j hj).1 (fun a h q => by have : s.heap.size + (32 - 32) ≤ a := q; omega)
  · exact va_Zof (hts _ mw_2.1) (hts _ mw_2.2.2.1) htw (fun a h q => by have : s.heap.size + (32 - 32) ≤ a := q; omega)
  · show va_OF _ _ _ _ (if j < 28 then _ else _) _ _ _
    rw [if_pos hj]
    exact (hof j hj).narrow (fun q h => by have : s.heap.size + (32 - 32) ≤ q := h; omega)
  · show va_OF _ _ _ _ (if j < 28 then _ else _) _ _ _
    rw [if_pos hj]
    exact vk_OFof (had j hj).1 (va_eqt (hs _ (mw_fact j hj))) (fun a h q => by have : s.heap.size + (32 - 32) ≤ a := q; omega)
  · obtain ⟨cell, w1, w2, w3, w4, w5, w6, w7⟩ := hTw
    refine ⟨cell, w1, w2, w3, w4, w5, fun j hj => ?_, fun q => by have : s.heap.size + (32 - 32) ≤ tw := q; omega⟩
    show _ = some (Value.ref (if j < 28 then _ else _))
    rw [if_pos hj]
    exact w6 j hj
  · exact vk_R.of (hts _ mw_2.2.2.2.2.2) sq1
  · refine ⟨fun i hi => ⟨⟨scA, sq3, sq5, by rw [sq6]; exact sq2, fun q => Nat.not_le.mpr lt2 q⟩, vk_OFof sq1 (va_eqt (hs _ mw_3.2.1)) (fun a h q => by have : s.heap.size + (32 - 32) ≤ a := q; omega), vk_OFof sq1 hsb (fun a h q => by have : s.heap.size + (32 - 32) ≤ a := q; omega), ?_⟩, fun i j hi hj _ => by omega⟩
    have e0 : i = 0 := by omega
    subst e0
    exact hTs.narrow (fun q h => by have : s.heap.size + (32 - 32) ≤ q := h; omega)
  · exact va_Zof (hts _ mw_2.2.1) (hts _ mw_2.2.2.2.2.1) (va_eqi (hs _ mw_1.2.2)) (fun a h q => by have : s.heap.size + (32 - 32) ≤ a := q; omega)
  · exact ⟨scr, sx1, sx2, sx3, Nat.le_of_eq sx4.symm, (by rw [sx4]), sx5, fun q => Nat.not_le.mpr hbl q⟩
