/-! the law's entry, with the end that mm_LZ says -/
theorem L_entry {p : Program} {e : Env} {s : State} {m : MethodId} {below : List Frame} {meth : Method} {c : Code} (l : Launch) {b L : Nat} {xs : Nat → Int32} (hL : L ≤ 3584) (C0 : lw_At p s m meth c b L xs)
    (K : ∀ V : mm_V, V.2.2.2 = (L, xs) → MM V l Y_L_law 1000 285 86817 (mm_LZ V) 20 [(3, .ref 316), (2, .ref 261), (1, .ref 32), (0, .ref 31)] [] mc_h0) :
    W p l e room_1 s m #[Value.ref b] below meth c s.heap [] 0 0 (lw_Z below #[Value.ref b] s) (entryFrame m ([Value.ref b] : List Value).toArray 7) := by
  obtain ⟨hx, hb, hr, hml, hown, hts, hX, hbl, hlocks, hgv⟩ := id C0
  obtain ⟨V, hV31, hV32, hVx, hE, hAO⟩ := mm_start hts hgv hX hbl hL
  rw [lg_entry_eq]
  have hl := lv_entry ([.ref b]) (n := 7) (Nat.le_of_ble_eq_true rfl)
  have hb0 := L_begin (V := V) (l := l) (C := 601024) (S := 7293034) (by decide) (by decide) (fun _ _ => .null) (K V hVx)
  have e1 : ([(0, Value.ref 31)] : List (Nat × Value)).map (mm_lp V) = lv_args 0 [.ref b] := by
    show [(0, Value.ref (V.1 31))] = _
    rw [hV31]
    rfl
  have k := hb0 p e room_1 s m #[Value.ref b] below meth c s.heap [] _ ⟨hx, hb, hr, hlocks, hml, hown, fun w hw => hts w (List.mem_filter.mp hw).1, hE, ⟨by decide, by decide⟩, Nat.zero_le _, Nat.zero_le _⟩ ⟨hAO, fun h => absurd h (by decide), by decide, by decide⟩ (by rw [e1]; exact hl) ⟨Nat.le_refl _, by rw [hV32]; rfl, fun a h1 h2 => by omega⟩ va_S.rf
  intro T hT X
  obtain ⟨t, a1, b1⟩ := k T hT X
  exact ⟨t, a1, b1 hV32⟩
