/-! a set of names read, both sides -/
theorem mj_if1 {α : Type} {x : Int32} {o : Option Int32} {X Y : Option α} (h : x = 0 ∨ o = some 0) : (if x = 0 then X else (o.bind fun v => if v = 0 then X else Y)) = X := by
  by_cases c : x = 0
  · exact if_pos c
  · rw [if_neg c, mk_bs (h.resolve_left c)]; exact if_pos rfl
theorem mj_if2 {α : Type} {x : Int32} {o : Option Int32} {X Y : Option α} (h : ¬ x = 0) (h2 : o = some 1) : (if x = 0 then X else (o.bind fun v => if v = 0 then X else Y)) = Y := by
  rw [if_neg h, mk_bs h2]; exact if_neg (by decide)
theorem mj_cnt_set {f g : Nat → Bool} {i : Nat} (fi : f i = false) (gi : g i = true) (o : ∀ j, ¬ j = i → g j = f j) : ∀ n, i < n → mk_cnt g n = mk_cnt f n + 1
  | 0, h => absurd h (Nat.not_lt_zero _)
  | n + 1, h => by
    show mk_cnt g n + (g n).toNat = mk_cnt f n + (f n).toNat + 1
    by_cases e : i = n
    · subst e
      rw [fi, gi, mk_cnt_congr (fun j hj => o j (by omega))]
      show _ + 1 = _ + 0 + 1
      omega
    · rw [mj_cnt_set fi gi o n (by omega), o n (fun z => e z.symm)]
      omega
theorem mj_fv_nz {k b : Nat} (hk : 0 < k) (hk2 : k < 16) (hb : b ≤ 1000) : ¬ mk_fv k b = 0 := by
  unfold mk_fv
  rw [mn_lmul 16, mn_add]
  exact fun z => absurd ((mn_eql (b := 0) (show k + 16 * b < 4294967296 by omega) (by decide)).mp z) (show ¬ k + 16 * b = 0 by omega)
/-- what the reading of a set leaves alone in the reference: all but the token, what is given, the set -/
def mj_fs (cell k : Nat) (h h' : mm_H) : Prop := mk_ch (fun c => c = 261 ∨ c = cell) h h' ∧ (∀ j, ¬ j = 4 → ¬ j = 5 → ¬ j = 6 → ¬ j = 8 → ¬ j = 41 → h'.1 261 j = h.1 261 j) ∧ ∀ j, ¬ j = k → h'.1 cell j = h.1 cell j
def mj_fsF (v : Int32) (cell k : Nat) (h h' : mm_H) : Prop := mk_ch (fun c => c = 261 ∨ c = cell) h h' ∧ (∀ j, ¬ j = 4 → ¬ j = 5 → ¬ j = 6 → ¬ j = 8 → ¬ j = 9 → ¬ j = 41 → h'.1 261 j = h.1 261 j) ∧ (∀ j, ¬ j = k → h'.1 cell j = h.1 cell j) ∧ h'.1 261 9 = v
theorem mj_fs.fF {v : Int32} {cell k : Nat} (hc : ¬ cell = 261) {h h1 h2 : mm_H} (a : mj_fs cell k h h1) (q : mk_FM v h1 h2) : mj_fsF v cell k h h2 := ⟨a.1.tr q.1 (fun _ z => z) (fun _ z => Or.inl z), fun j n1 n2 n3 n4 n5 n6 => (q.2.1 j n1 n2 n3 n4 n5 n6).trans (a.2.1 j n1 n2 n3 n4 n6), fun j hj => by rw [q.1.e1 (c := cell) hc]; exact a.2.2 j hj, q.2.2⟩
theorem mj_fs.fy {cell k : Nat} (hc : ¬ cell = 261) {h h1 h2 : mm_H} (a : mj_fs cell k h h1) (q : mk_fy h1 h2) : mj_fs cell k h h2 := ⟨a.1.tr q.1 (fun _ z => z) (fun _ z => Or.inl z), fun j n1 n2 n3 n4 n5 => (q.2 j n1 n2 n3 n4).trans (a.2.1 j n1 n2 n3 n4 n5), fun j hj => by rw [q.1.e1 (c := cell) hc]; exact a.2.2 j hj⟩
theorem mj_fs.p {cell k : Nat} {h h1 : mm_H} {v : Int32} (hc : ¬ cell = 261) (a : mj_fs cell k h h1) : mj_fs cell k h (mm_pI h1 cell k v) := ⟨a.1.tr (mk_ch.pI (D := fun c => c = 261 ∨ c = cell) (Or.inr rfl)) (fun _ z => z) (fun _ z => z), fun j n1 n2 n3 n4 n5 => by rw [mp_I1, if_neg (fun z => hc z.1.symm)]; exact a.2.1 j n1 n2 n3 n4 n5, fun j hj => by rw [mp_I1, if_neg (fun z => hj z.2)]; exact a.2.2 j hj⟩
theorem mj_fs.g {cell k : Nat} {h h1 : mm_H} {v : Int32} (hc : ¬ cell = 261) (a : mj_fs cell k h h1) : mj_fs cell k h (mm_pI h1 261 41 v) := ⟨a.1.tr (mk_ch.pI (D := fun c => c = 261 ∨ c = cell) (Or.inl rfl)) (fun _ z => z) (fun _ z => z), fun j n1 n2 n3 n4 n5 => by rw [mp_I1, if_neg (by omega)]; exact a.2.1 j n1 n2 n3 n4 n5, fun j hj => by rw [mp_I1, if_neg (fun z => hc z.1)]; exact a.2.2 j hj⟩
theorem mk_TKM.cell {s : mk_S} {b : Nat} {h : mm_H} {c j : Nat} {v : Int32} (T : mk_TKM s b h) (hc : ¬ c = 261 ∧ ¬ c = 262) : mk_TKM s b (mm_pI h c j v) := by
  obtain ⟨t0, t1, t2, t3, t4, t5, t6, t7⟩ := T
  refine ⟨t0, fun k hk => by rw [mp_I1, if_neg (by omega)]; exact t1 k hk, ?_, ?_, ?_, ?_, t6, fun z => ?_⟩
  · rw [mp_I1, if_neg (by omega)]; exact t2
  · rw [mp_I1, if_neg (by omega)]; exact t3
  · rw [mp_I1, if_neg (by omega)]; exact t4
  · rw [mp_I1, if_neg (by omega)]; exact t5
  · rw [mp_I1, if_neg (by omega)]; exact t7 z
theorem mk_TKM.cellL {s : mk_S} {b : Nat} {h : mm_H} {c j : Nat} {v : Int64} (T : mk_TKM s b h) (hc : ¬ c = 261) : mk_TKM s b (mm_pL h c j v) := by
  obtain ⟨t0, t1, t2, t3, t4, t5, t6, t7⟩ := T
  exact ⟨t0, t1, t2, t3, t4, t5, fun z => by rw [mp_L2, if_neg (by omega)]; exact t6 z, t7⟩
/-- a set read on both sides -/
def mj_SR (s : mk_S) (b N cell k : Nat) (hX hM : mm_H) (a c : Int32 × mm_H) : Prop := (∃ v, ¬ v = 0 ∧ a.1 = -1 ∧ c.1 = 0 ∧ mk_FX v hX a.2 ∧ mj_fsF v cell k hM c.2) ∨ ∃ g b', 0 < g ∧ g < 2 ^ N ∧ b < b' ∧ mk_iss s b' 59 = true ∧ a.1 = Int32.ofNat g ∧ mk_fx hX a.2 ∧ mk_TKX s (mk_ntk s b') a.2 ∧ c.1 = 1 ∧ mj_fs cell k hM c.2 ∧ mk_TKM s b' c.2 ∧ c.2.1 cell k = Int32.ofNat g
theorem mj_set {s : mk_S} {b N a0 cell k : Nat} {x2 : Int32} {nm : Nat → Nat → Nat} {hX hM : mm_H} {ixo : Option Nat} {fN : mm_H → Option (Int32 × mm_H)} (hs : mk_sgs s) (ht : mm_tg a0 = 7) (hN : N ≤ 10) (hc : ¬ cell = 261 ∧ ¬ cell = 262) (ix : ixo = some k)
    (FX : ∀ b h', mk_fx hX h' → mk_TKX s b h' → mk_kd s b = 1 → (if x2 = 0 then ((f_To_findSecret a0 (h'.2.1 33 6) h').bind fun v6 => some v6) else ((f_To_findPerson a0 (h'.2.1 33 6) h').bind fun v8 => some v8) : Option Int32) = some (mj_fv nm N s b))
    (FN1 : ∀ b h', mj_fs cell k hM h' → mk_TKM s b h' → mj_tf nm N s b = 0 → fN h' = some (1, mm_pI h' 261 41 (Int32.ofNat (mj_fd nm N s b))))
    (FN0 : ∀ b h', mj_fs cell k hM h' → mk_TKM s b h' → ¬ mj_tf nm N s b = 0 → mk_ok (fN h') (fun v => v.1 = 0 ∧ mk_FM (mk_fv (mj_tf nm N s b) b) h' v.2))
    (TX : mk_TKX s b hX) (h9 : hX.1 33 9 = 0) (TM : mk_TKM s b hM) (h0 : hM.1 cell k = 0) :
    mj_two (f_To_takeSet a0 x2 hX) (mm_while (σ := mm_H) (ρ := (Int32 × mm_H)) (fun s5 => ixo.bind fun k8 => mm_jp (fun (j10 : Unit) => ((fN s5).bind fun v14 => if v14.1 = 0 then (some (Sum.inr (0, v14.2))) else (ixo.bind fun k15 => if (((v14.2.1 cell k15) >>> ((v14.2.1 261 41) &&& 31)) &&& 1) = 1 then ((f_M_fails 3 v14.2).bind fun v26 => (mm_bo v26.1).bind fun b27 => some (Sum.inr (b27, v26.2))) else (ixo.bind fun k17 => ixo.bind fun k19 => mm_let (mm_pI v14.2 cell k19 ((v14.2.1 cell k17) ||| ((1 : Int32) <<< ((v14.2.1 261 41) &&& 31)))) fun h21 => (f_M_nextToken h21).bind fun v24 => some (Sum.inl v24))))) fun k12 => if (s5.1 cell k8) = 0 then (k12 ()) else ((f_M_isSign 59 s5).bind fun v36 => if v36 = 0 then (k12 ()) else (some (Sum.inr (1, s5))))) hM) (mj_SR s b N cell k hX hM) := by
  subst ix
  have s1 := hs.1
  unfold f_To_takeSet
  rw [if_pos ht]
  refine mj_two.lp (fun n (x : Int32 × Int32 × mm_H) (y : mm_H) => ∃ g b', n = s.1 - b' ∧ b ≤ b' ∧ (g = 0 ∨ b < b') ∧ g < 2 ^ N ∧ x.1 = Int32.ofNat g ∧ x.2.1 = Int32.ofNat (mk_cnt g.testBit N) ∧ mk_fx hX x.2.2 ∧ mk_TKX s b' x.2.2 ∧ mj_fs cell k hM y ∧ mk_TKM s b' y ∧ y.1 cell k = Int32.ofNat g) (fun n x y hI => ?_) (s.1 - b) _ _ ⟨0, b, rfl, Nat.le_refl _, Or.inl rfl, Nat.two_pow_pos _, rfl, ?_, mk_fx.rf, TX, ⟨mk_ch.rf, fun _ _ _ _ _ _ => rfl, fun _ _ => rfl⟩, TM, h0⟩
  · obtain ⟨g, b', en, bb, prog, gl, e1, e2, kx, tx, km, tm, eg⟩ := hI
    have g1k : g < 1024 := mk_s2 hN gl
    have x9 : x.2.2.1 33 9 = 0 := kx.2.2.trans h9
    have bl := tx.1
    have cl := mk_cnt_le g.testBit N
    simp only [mm_jp, mm_let, Option.bind_some]
    rw [e1, e2, eg, if_neg (fun z => absurd ((mn_llt (b := 10) (show mk_cnt g.testBit N < 2147483648 by omega) (by decide)).mp z) (show ¬ 10 < mk_cnt g.testBit N by omega))]
    have Z : (Int32.ofNat g = 0) ↔ g = 0 := mn_eql (b := 0) (show g < 4294967296 by omega) (by decide)
    by_cases c : g = 0 ∨ mk_iss s b' 59 = false
    · have cX : Int32.ofNat g = 0 ∨ f_Ta_isSign 59 x.2.2 = some 0 := by
        rcases c with c | c
        · exact Or.inl (Z.mpr c)
        · right
          have := mx_isSign (c := 59) hs tx (by decide)
          rw [c] at this
          exact this
      have cM : Int32.ofNat g = 0 ∨ f_M_isSign 59 y = some 0 := by
        rcases c with c | c
        · exact Or.inl (Z.mpr c)
        · right
          have := mi_isSign (c := 59) hs tm (by decide)
          rw [c] at this
          exact this
      rw [mj_if1 cX, mj_if1 cM]
      by_cases tf : mj_tf nm N s b' = 0
      · obtain ⟨isn, fl⟩ := mj_tf_0 tf
        refine mj_two.xs (mj_findTold1 (nm := nm) ht hN tx tf (FX b' x.2.2 kx tx)) ?_
        refine mj_two.ms (FN1 b' y km tm tf) ?_
        dsimp only
        rw [if_neg (mn_nn1 (by omega)), if_neg (show ¬ (1 : Int32) = 0 by decide)]
        rw [show ∀ v, (mm_pI y 261 41 v).1 261 41 = v from fun v => by rw [mp_I1, if_pos ⟨rfl, rfl⟩], show (mm_pI y 261 41 (Int32.ofNat (mj_fd nm N s b'))).1 cell k = Int32.ofNat g by rw [mp_I1, if_neg (fun z => hc.1 z.1)]; exact eg]
        refine mj_two.xs (mn_xbit (show g < 2147483648 by omega) (show mj_fd nm N s b' < 31 by omega)) ?_
        rw [mn_bit (show g < 2147483648 by omega) (show mj_fd nm N s b' < 31 by omega)]
        cases tb : g.testBit (mj_fd nm N s b')
        · rw [if_neg (show ¬ Int32.ofNat false.toNat = 1 by decide), if_neg (show ¬ Int32.ofNat false.toNat = 1 by decide)]
          have bs : b' < s.1 := (mk_kd_1 isn.1).1
          have nb := mk_ntk_le (s := s) (b := b') bl
          have nb2 := mk_en_lt bs
          refine mj_two.x (mx_ttake hs tx) (fun v22 ⟨n1, n2⟩ => ?_)
          rw [mn_shl (show mj_fd nm N s b' < 32 by omega), mn_or]
          have km2 : mj_fs cell k hM (mm_pI (mm_pI y 261 41 (Int32.ofNat (mj_fd nm N s b'))) cell k (Int32.ofNat (g ||| 2 ^ mj_fd nm N s b'))) := (km.g hc.1).p hc.1
          refine mj_two.m (mi_ttake hs ((tm.g41 (v := Int32.ofNat (mj_fd nm N s b')) (j := 41) (by omega)).cell (c := cell) (j := k) (v := Int32.ofNat (g ||| 2 ^ mj_fd nm N s b')) hc)) (fun v24 ⟨m1, m2⟩ => ?_)
          refine mj_two.ret (Or.inl ⟨s.1 - mk_ntk s b', _, _, rfl, rfl, ⟨g ||| 2 ^ mj_fd nm N s b', mk_ntk s b', rfl, by omega, Or.inr (by omega), Nat.or_lt_two_pow gl (Nat.pow_lt_pow_right (by omega) fl), rfl, ?_, kx.tr n1, n2, km2.fy hc.1 m1, m2, ?_⟩, by omega⟩)
          · dsimp only
            rw [mn_addl 1, mj_cnt_set (g := (g ||| 2 ^ mj_fd nm N s b').testBit) tb (by rw [mk_or_bit, decide_eq_true rfl, Bool.or_true]) (fun j hj => by rw [mk_or_bit, decide_eq_false hj, Bool.or_false]) N fl]
          · rw [m1.1.e1 (c := cell) hc.1, mp_I1, if_pos ⟨rfl, rfl⟩]
        · rw [if_pos (show Int32.ofNat true.toNat = 1 from rfl), if_pos (show Int32.ofNat true.toNat = 1 from rfl)]
          refine mj_two.x (mx_wrong (k := 3) tx x9) (fun v26 ⟨w1, w2⟩ => ?_)
          refine mj_two.m (mi_fails (k := 3) (tm.g41 (v := Int32.ofNat (mj_fd nm N s b')) (j := 41) (by omega))) (fun v26' ⟨w3, w4⟩ => ?_)
          rw [w3]
          refine mj_two.ms mk_bo0 (mj_two.ret (Or.inr ⟨_, _, rfl, rfl, Or.inl ⟨mk_fv 3 b', mj_fv_nz (by omega) (by omega) (by omega), rfl, rfl, w2.fx kx, (km.g hc.1).fF hc.1 w4⟩⟩))
      · refine mj_two.x (mj_findTold0 (nm := nm) (N := N) ht tx x9 tf (FX b' x.2.2 kx tx)) (fun v16 ⟨w1, w2⟩ => ?_)
        refine mj_two.m (FN0 b' y km tm tf) (fun v14 ⟨w3, w4⟩ => ?_)
        rw [w1, w3, if_pos rfl, if_pos (show (0 : Int32) = 0 from rfl)]
        have nz : ¬ mk_fv (mj_tf nm N s b') b' = 0 := by
          by_cases n : mk_isn s b'
          · rw [(mj_tf_2 tf n).2]; exact mj_fv_nz (by omega) (by omega) (by omega)
          · rw [mj_tf_1 n]; exact mj_fv_nz (by omega) (by omega) (by omega)
        exact mj_two.ret (Or.inr ⟨_, _, rfl, rfl, Or.inl ⟨_, nz, rfl, rfl, w2.fx kx, km.fF hc.1 w4⟩⟩)
    · have c1 : ¬ g = 0 := fun z => c (Or.inl z)
      have c2 : mk_iss s b' 59 = true := by
        cases q : mk_iss s b' 59
        · exact absurd (Or.inr q) c
        · rfl
      have iX : f_Ta_isSign 59 x.2.2 = some 1 := by
        have := mx_isSign (c := 59) hs tx (by decide)
        rw [c2] at this
        exact this
      have iM : f_M_isSign 59 y = some 1 := by
        have := mi_isSign (c := 59) hs tm (by decide)
        rw [c2] at this
        exact this
      rw [mj_if2 (fun z => c1 (Z.mp z)) iX, mj_if2 (fun z => c1 (Z.mp z)) iM]
      refine mj_two.x (mx_takeSign1 (c := 59) hs tx (by decide) c2) (fun v8 ⟨w1, w2, w3⟩ => ?_)
      rw [w1, if_neg (show ¬ (1 : Int32) = 0 by decide)]
      exact mj_two.ret (Or.inr ⟨_, _, rfl, rfl, Or.inr ⟨g, b', by omega, gl, prog.resolve_left c1, c2, rfl, kx.tr w2, w3, rfl, km, tm, eg⟩⟩)
  · show (0 : Int32) = _
    have : mk_cnt (Nat.testBit 0) N = 0 := by
      have key : ∀ n, mk_cnt (Nat.testBit 0) n = 0 := by
        intro n
        induction n with
        | zero => rfl
        | succ n ih =>
          show mk_cnt (Nat.testBit 0) n + ((0 : Nat).testBit n).toNat = 0
          rw [ih, Nat.zero_testBit]; rfl
      exact key N
    rw [this]; rfl
