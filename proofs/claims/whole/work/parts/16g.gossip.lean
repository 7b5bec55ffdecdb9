/-! gossip, both sides -/
theorem mj_callof {fX fM : mm_H → Option (Int32 × mm_H)} (H : ∀ (A : mk_A) (E : mk_E) (t : Nat) (r : Nat → Nat) (u : mk_U) (hX hM : mm_H), mk_wf A r u → mk_X A E t r u hX → mk_M A E r u hM → mj_two (fX hX) (fM hM) (fun a c => a.1 = c.1 ∧ mk_fM hX a.2 ∧ mk_fX hM c.2 ∧ ∃ (A' : mk_A) (E' : mk_E) (t' : Nat) (r' : Nat → Nat) (u' : mk_U), mk_wf A' r' u' ∧ mk_X A' E' t' r' u' a.2 ∧ mk_M A' E' r' u' c.2)) : mk_call fX fM := by
  intro h hI
  obtain ⟨A, E, t, r, u, hw, hX, hM⟩ := hI
  obtain ⟨a, c, e1, e2, _, f1, _⟩ := H A E t r u h h hw hX hM
  obtain ⟨a', c', e1', e2', q1, q2, q3, A', E', t', r', u', w', x', m'⟩ := H A E t r u h a.2 hw hX (hM.fM f1)
  rw [e1] at e1'
  obtain rfl := Option.some.inj e1'
  refine ⟨a.1, a.2, c'.2, e1, ?_, A', E', t', r', u', w', x'.fX w' q3, m'⟩
  rw [e2', q1]
theorem mj_bk {α β : Type} {o : Option α} {k : α → Option β} {v : β} (h : o.bind k = some v) : ∃ a, o = some a ∧ k a = some v := by
  cases o with
  | none => exact nomatch h
  | some a => exact ⟨a, rfl, h⟩
theorem mx_copyLines {v : mj_L} {h : mm_H} (q : mj_LX v 54 h) (n : v 0 0 ≤ 30) : mk_ok (f_Tk_copyLines 47 54 h) (fun g => mk_ch (fun c => 47 ≤ c ∧ c ≤ 51) h g ∧ g.1 47 5 = h.1 47 5 ∧ mj_LX v 47 g) := by
  unfold f_Tk_copyLines
  rw [if_pos ⟨mj_t54.2, mj_t54.1⟩]
  simp only [mm_let]
  generalize hg : mm_cpI (mm_cpI (mm_cpI (mm_cpI (mm_pI h 47 0 (h.1 54 0)) (54 + 1) (47 + 1) 30) (54 + 2) (47 + 2) 30) (54 + 3) (47 + 3) 30) (54 + 4) (47 + 4) 30 = g
  have g1 : ∀ c j, g.1 c j = if c = 47 ∧ j = 0 then h.1 54 0 else if 48 ≤ c ∧ c ≤ 51 ∧ j < 30 then h.1 (c + 7) j else h.1 c j := by
    intro c j
    rw [← hg]
    simp only [mp_c1, mp_I1]
    by_cases a : c = 47 ∧ j = 0
    · rw [if_neg (by omega), if_neg (by omega), if_neg (by omega), if_neg (by omega), if_pos a, if_pos a]
    · rw [if_neg a, if_neg a]
      by_cases b : 48 ≤ c ∧ c ≤ 51 ∧ j < 30
      · rw [if_pos b]
        have : c = 48 ∨ c = 49 ∨ c = 50 ∨ c = 51 := by omega
        rcases this with rfl | rfl | rfl | rfl
        · rw [if_neg (by omega), if_neg (by omega), if_neg (by omega), if_pos (by omega), if_neg (by omega)]
        · rw [if_neg (by omega), if_neg (by omega), if_pos (by omega), if_neg (by omega), if_neg (by omega)]
        · rw [if_neg (by omega), if_pos (by omega), if_neg (by omega), if_neg (by omega), if_neg (by omega)]
        · rw [if_pos (by omega), if_neg (by omega), if_neg (by omega), if_neg (by omega), if_neg (by omega)]
      · rw [if_neg b, if_neg (by omega), if_neg (by omega), if_neg (by omega), if_neg (by omega)]
  have g2 : g.2 = h.2 := by rw [← hg]; rfl
  refine mk_ok.ret ⟨⟨fun c hc => ⟨?_, by rw [g2]⟩, by rw [g2]⟩, ?_, ?_, fun k hk => ?_⟩
  · funext j
    rw [g1, if_neg (by omega), if_neg (by omega)]
  · rw [g1, if_neg (by omega), if_neg (by omega)]
  · rw [g1, if_pos ⟨rfl, rfl⟩]; exact q.1
  · rw [g1, g1, g1, g1, if_neg (by omega), if_pos (by omega), if_neg (by omega), if_pos (by omega), if_neg (by omega), if_pos (by omega), if_neg (by omega), if_pos (by omega)]
    exact q.2 k hk
theorem mc_gossip : mk_call f_X_gossip f_M_gossip := by
  refine mj_callof (fun A E t r u hX hM hw iX iM => ?_)
  have hT := hw.1
  have hP := hT.1.1
  have hS1 := hT.1.2.1
  have ht := iX.2.1.1
  have hs : mk_sgs (u 90 0, u 91) := hw.2.2.2.2.2.1
  have hs0 : mk_sgs (0, u 91) := ⟨by dsimp only; omega, fun k hk => absurd hk (Nat.not_lt_zero k)⟩
  have tt : mm_tg t = 7 := (mk_tt ht).1
  unfold f_X_gossip f_M_gossip f_Go_readGossip f_Tk_clear f_Ta_rewind f_M_starts
  refine mj_two.xs (mx_gT iX.1.1 ht) ?_
  rw [if_pos ⟨tt, mj_t54.1⟩, if_pos mj_t54.1]
  refine mj_two.xa (mj_two.xla (mj_two.xla (mj_two.xs rfl ?_)))
  refine mj_two.xa (mj_two.xla (mj_two.xla ?_))
  -- the class: the draft emptied, the tape rewound
  have g3 : mj_gx hX (mm_pI (mm_pI hX 54 0 0) 54 5 0) := (mj_gx.ch (mk_ch.pI (D := fun c => c = 54) rfl) (fun c z => by omega)).tr (mj_gx.ch (mk_ch.pI (D := fun c => c = 54) rfl) (fun c z => by omega))
  have l3 : mj_LX (fun _ _ => 0) 54 (mm_pI (mm_pI hX 54 0 0) 54 5 0) := ⟨by rw [mp_I1, if_neg (by omega), mp_I1, if_pos ⟨rfl, rfl⟩]; rfl, fun k hk => absurd hk (Nat.not_lt_zero k)⟩
  revert g3 l3
  generalize mm_pI (mm_pI hX 54 0 0) 54 5 0 = h3
  intro g3 l3
  have P3 : mk_PXs (u 90 0, u 91) h3 := by
    have := iX.2.2.2.2.2.2.1
    exact ⟨g3.2.trans this.1, fun k hk => by rw [g3.1.e1 (c := 34) (by omega)]; exact this.2 k hk⟩
  have c5 : mk_cr (fun c => c = 33) h3 (mm_pI (mm_pI h3 33 2 0) 33 9 0) := mk_cr.of ((mk_ch.pI (D := fun c => c = 33) rfl).tr (mk_ch.pI (D := fun c => c = 33) rfl) (fun _ z => z) (fun _ z => z))
  have c51 : (mm_pI (mm_pI h3 33 2 0) 33 9 0).1 33 1 = h3.1 33 1 := by rw [mp_I1, if_neg (by omega), mp_I1, if_neg (by omega)]
  have c52 : (mm_pI (mm_pI h3 33 2 0) 33 9 0).1 33 2 = Int32.ofNat 0 := by rw [mp_I1, if_neg (by omega), mp_I1, if_pos ⟨rfl, rfl⟩]; rfl
  have c59 : (mm_pI (mm_pI h3 33 2 0) 33 9 0).1 33 9 = 0 := by rw [mp_I1, if_pos ⟨rfl, rfl⟩]
  revert c5 c51 c52 c59
  generalize mm_pI (mm_pI h3 33 2 0) 33 9 0 = h5
  intro c5 c51 c52 c59
  have g5 : mj_gx hX h5 := g3.tr ⟨c5.mono (fun c z => Or.inl z), c51⟩
  have P5 : mk_PXs (u 90 0, u 91) h5 := ⟨c51.trans P3.1, fun k hk => by rw [c5.e1 (c := 34) (by omega)]; exact P3.2 k hk⟩
  have l5 := l3.cr c5 (fun j z => by omega)
  refine mj_two.xa (mj_two.x (mx_tnext hs (Nat.zero_le _) P5 c52) (fun v6 ⟨n1, n2⟩ => ?_))
  refine mj_two.xs rfl ?_
  have g6 := g5.tr n1.gx
  have l6 := l5.cr n1.1 (fun j z => by omega)
  have x69 : v6.1 33 9 = 0 := n1.2.2.trans c59
  -- the reference
  refine mj_two.ml ?_
  have p0 : mk_s2m hM (mm_pI hM 261 0 0) := mk_s2m.pI ⟨by decide, by decide⟩
  have iM1 := iM.s2 p0
  have fX1 := mk_fX.s2 p0
  revert iM1 fX1
  generalize mm_pI hM 261 0 0 = h1
  intro iM1 fX1
  refine mj_two.ml (mj_two.mla (mj_two.mla (mj_two.mla ?_)))
  have PM := iM1.2.2.2.2.2.1
  have k5 : mk_ch (fun c => c = 261 ∨ (293 ≤ c ∧ c ≤ 297)) h1 (mm_pI (mm_pI (mm_pI (mm_pI h1 293 5 0) 261 3 ((mm_pI h1 293 5 0).1 261 1)) 261 1 0) 261 4 0) := (((mk_ch.pI (D := fun c => c = 261 ∨ (293 ≤ c ∧ c ≤ 297)) (Or.inr ⟨by omega, by omega⟩)).tr (mk_ch.pI (D := fun c => c = 261 ∨ (293 ≤ c ∧ c ≤ 297)) (Or.inl rfl)) (fun _ z => z) (fun _ z => z)).tr (mk_ch.pI (D := fun c => c = 261 ∨ (293 ≤ c ∧ c ≤ 297)) (Or.inl rfl)) (fun _ z => z) (fun _ z => z)).tr (mk_ch.pI (D := fun c => c = 261 ∨ (293 ≤ c ∧ c ≤ 297)) (Or.inl rfl)) (fun _ z => z) (fun _ z => z)
  have v5 : ∀ c j, (mm_pI (mm_pI (mm_pI (mm_pI h1 293 5 0) 261 3 ((mm_pI h1 293 5 0).1 261 1)) 261 1 0) 261 4 0).1 c j = if c = 261 ∧ j = 4 then 0 else if c = 261 ∧ j = 1 then 0 else if c = 261 ∧ j = 3 then h1.1 261 1 else if c = 293 ∧ j = 5 then 0 else h1.1 c j := by
    intro c j
    rw [mp_I1, mp_I1, mp_I1, mp_I1, mp_I1, if_neg (show ¬ (261 = 293 ∧ 1 = 5) by omega)]
  revert k5 v5
  generalize mm_pI (mm_pI (mm_pI (mm_pI h1 293 5 0) 261 3 ((mm_pI h1 293 5 0).1 261 1)) 261 1 0) 261 4 0 = h9
  intro k5 v5
  have PY : mk_PY (u 90 0, u 91) h9 := ⟨by rw [v5, if_neg (by omega), if_neg (by omega), if_pos ⟨rfl, rfl⟩]; exact PM.1, fun k hk => by rw [v5, if_neg (by omega), if_neg (by omega), if_neg (by omega), if_neg (by omega)]; exact PM.2 k hk⟩
  refine mj_two.ma (mj_two.m (mi_tnext hs (Nat.zero_le _) PY (by rw [v5, if_pos ⟨rfl, rfl⟩]; rfl)) (fun v8 ⟨m1, m2⟩ => ?_))
  refine mj_two.ms rfl ?_
  have w8 : mj_gw h9 v8 := m1.gw
  have LM8 : mj_LM (fun _ _ => 0) v8 := ⟨by rw [m1.1.e1 (c := 293) (by decide), v5, if_neg (by omega), if_neg (by omega), if_neg (by omega), if_pos ⟨rfl, rfl⟩]; rfl, fun k hk => absurd hk (Nat.not_lt_zero k)⟩
  have NX0 : mj_NAX t (A 263 0) (A 263 1) (fun k => u (100 + k)) (fun k => u (110 + k)) hX := ⟨⟨iX.2.1.2.1.1, iX.2.2.2.2.2.2.2.1⟩, ⟨iX.2.1.2.1.2.1, iX.2.2.2.2.2.2.2.2⟩⟩
  have NM0 : mj_NAM 0 (A 263 0) (A 263 1) (fun k => u (100 + k)) (fun k => u (110 + k)) h1 := ⟨⟨iM1.1.1 0 (by omega), fun k hk => by rw [show 6 * 0 + k = k by omega]; exact iM1.2.2.2.2.2.2.1 k hk⟩, ⟨iM1.1.1 1 (by omega), fun k hk => by rw [show 10 * 0 + k = k by omega]; exact iM1.2.2.2.2.2.2.2 k hk⟩⟩
  have oP : mj_nms (A 263 0) (fun k => u (100 + k)) := hw.2.2.2.2.2.2.1
  have oS : mj_nms (A 263 1) (fun k => u (110 + k)) := hw.2.2.2.2.2.2.2
  have NM8 := (NM0.ch k5 ⟨by omega, by omega, by omega⟩).ch w8.1 ⟨by omega, by omega, by omega⟩
  obtain ⟨a, c, e1, e2, R⟩ := mj_reads hs ht hP hS1 oP oS (NX0.gx ht g6) NM8 n2 x69 m2 l6 LM8 (⟨Nat.zero_le 30, fun k hk => absurd hk (Nat.not_lt_zero k)⟩ : mj_LW (A 263 0) (A 263 1) (fun _ _ => 0))
  refine mj_two.xs e1 ?_
  rw [e2]
  unfold f_Ta_clear
  refine mj_two.xla (mj_two.xs rfl ?_)
  -- the class's invariant behind it
  have clX : ∀ g : mm_H, mj_gx hX g → mk_X A E t r (mk_us u (0, u 91)) (mm_pI g 33 1 0) ∧ mk_fM hX (mm_pI g 33 1 0) := by
    intro g kg
    have kc : mk_cr (fun c => c = 33 ∨ (54 ≤ c ∧ c ≤ 60)) hX (mm_pI g 33 1 0) := kg.1.tr (mk_cr.of (mk_ch.pI (D := fun c => c = 33) rfl)) (fun _ z => z) (fun c z => Or.inl z)
    refine ⟨iX.us hw (kc.mono (fun c z => by unfold mk_sx; omega)) ⟨by rw [mp_I1, if_pos ⟨rfl, rfl⟩]; rfl, fun k hk => absurd hk (Nat.not_lt_zero k)⟩, fun c hc => kc.1 c (by omega)⟩
  have clM : ∀ g : mm_H, mj_gw v8 g → mk_M A E r (mk_us u (0, u 91)) g ∧ mk_fX hM g := by
    intro g kg
    have kw := w8.tr kg
    have kt := k5.tr kw.1 (D := fun c => c = 261 ∨ (293 ≤ c ∧ c ≤ 297)) (fun _ z => z) (fun _ z => z)
    refine ⟨iM1.gs hw kt ?_ (fun j hj => ?_) (fun c j c1 c2 hj => ?_) ⟨?_, fun k hk => absurd hk (Nat.not_lt_zero k)⟩, fX1.tr (mk_fX.of kt (fun c z => by omega))⟩
    · rw [kw.2.1 55 (by omega) (by omega) (by omega) (by omega) (by omega) (by omega), v5, if_neg (by omega), if_neg (by omega), if_neg (by omega), if_neg (by omega)]
    · rw [kw.2.2.1 j (by omega), v5, if_neg (by omega), if_neg (by omega), if_neg (by omega), if_neg (by omega)]
    · rw [kw.2.2.2 c j c1 c2 hj, v5, if_neg (by omega), if_neg (by omega), if_neg (by omega), if_neg (by omega)]
    · rw [kw.2.1 1 (by omega) (by omega) (by omega) (by omega) (by omega) (by omega), v5, if_neg (by omega), if_pos ⟨rfl, rfl⟩]; rfl
  have hwu := hw.us hs0
  rcases R with ⟨f, nz, r1, r2, r3, r4⟩ | ⟨v, hh, r1, r2, r3, r4, r5, r6, r7, r8⟩
  · rw [if_neg (by rw [r1]; exact nz)]
    obtain ⟨x1, x2⟩ := clX _ (g6.tr r3)
    obtain ⟨y1, y2⟩ := clM _ r4
    exact mj_two.ret ⟨by rw [r1, r2], x2, y2, A, E, t, r, _, hwu, x1, y1⟩
  · rw [if_pos r1]
    obtain ⟨x1, x2⟩ := clX _ (g6.tr r2)
    obtain ⟨y1, y2⟩ := clM _ r5
    refine mj_two.x (mx_copyLines (v := v) (r3.cr (mk_cr.of (mk_ch.pI (D := fun c => c = 33) rfl)) (fun j z => by omega)) r4.1) (fun g ⟨z1, z2, z3⟩ => ?_)
    obtain ⟨c2, ec, cs, cv⟩ := mi_laysLines (i := 5) (k := 0) (h := hh) (by omega) (by omega) (by omega)
    rw [show f_M_laysLines (Int32.ofNat 5) (Int32.ofNat 0) hh = some c.2 from r8] at ec
    obtain rfl := Option.some.inj ec
    have kl : mk_ch (fun c => 293 ≤ c ∧ c ≤ 297) hh c.2 := ⟨fun d hd => ⟨by funext j; rw [cv, if_neg (by omega), if_neg (by omega)], by rw [cs]⟩, by rw [cs]⟩
    refine mj_two.ret ⟨by rw [r1, r7], fun d hd => ?_, y2.tr (mk_fX.of kl (fun c z => by omega)), A, E, t, r, mj_ul (mk_us u (0, u 91)) v, hwu.ul r4, x1.ul hwu z1 z2 z3, y1.ul hwu kl (fun j j1 j2 => ?_) (fun d j d1 d2 j1 j2 => ?_) ?_ (fun k hk => ?_)⟩
    · have := x2 d hd
      rw [z1.e1 (c := d) (by omega), z1.e2 (c := d) (by omega)]
      exact this
    · rw [cv, if_neg (by omega), if_neg (by omega)]
    · rw [cv, if_neg (by omega), if_neg (by omega)]
    · rw [cv, if_pos ⟨rfl, rfl⟩]; exact r6.1
    · have h4 := r4.1
      rw [cv, cv, cv, cv, if_neg (by omega), if_pos (by omega), if_neg (by omega), if_pos (by omega), if_neg (by omega), if_pos (by omega), if_neg (by omega), if_pos (by omega), show 30 * 5 + (k - 30 * 0) = 150 + k by omega]
      exact r6.2 k hk
