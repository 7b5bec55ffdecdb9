/-! calls that may throw; person -/
def mk_callT (tX : mm_H → Prop) (fX fM : mm_H → Option (Int32 × mm_H)) : Prop := ∀ h, mk_INV h → ∃ c a h1 h2, @ite _ (tX h) (Classical.propDecidable _) (some ((1 : Int32), h)) ((fX h).bind fun v => some (0, mm_pL v.2 316 0 (Int32.toInt64 v.1))) = some (c, h1) ∧ fM h1 = some (a, h2) ∧ h2.1 261 0 = c ∧ (c = 0 → h2.2.1 316 0 = Int32.toInt64 a) ∧ mk_INV h2
theorem mk_callTof {tX : mm_H → Prop} {fX fM : mm_H → Option (Int32 × mm_H)}
    (H : ∀ (A : mk_A) (E : mk_E) (t : Nat) (r : Nat → Nat) (u : mk_U), mk_wf A r u →
      ((∀ h, mk_X A E t r u h → tX h) ∧ ∀ h, mk_M A E r u h → mk_ok (fM h) (fun v => v.2.1 261 0 = 1 ∧ mk_M A E r u v.2 ∧ mk_fX h v.2)) ∨
      ∃ a, (∀ h, mk_X A E t r u h → ¬ tX h ∧ mk_ok (fX h) (fun v => v.1 = a ∧ mk_X A E t r u v.2 ∧ mk_fM h v.2)) ∧
        ∀ h, mk_M A E r u h → mk_ok (fM h) (fun v => v.1 = a ∧ v.2.1 261 0 = 0 ∧ v.2.2.1 316 0 = h.2.1 316 0 ∧ mk_M A E r u v.2 ∧ mk_fX h v.2)) : mk_callT tX fX fM := by
  intro h hI
  obtain ⟨A, E, t, r, u, hw, hX, hM⟩ := hI
  rcases H A E t r u hw with ⟨k1, k2⟩ | ⟨a, k1, k2⟩
  · obtain ⟨⟨a, h2⟩, e2, m1, m2, m3⟩ := k2 h hM
    exact ⟨1, a, h, h2, if_pos (k1 h hX), e2, m1, fun z => absurd z (by decide), A, E, t, r, u, hw, hX.fX hw m3, m2⟩
  · obtain ⟨n, ⟨a1, h1⟩, e1, rfl, x1, f1⟩ := k1 h hX
    have p : mk_s2m h1 (mm_pL h1 316 0 (Int32.toInt64 a1)) := mk_s2m.of (D := fun c => c = 316) (mk_ch.pL rfl) (fun c z => by unfold mk_sm; omega)
    obtain ⟨⟨a2, h2⟩, e2, g1, m1, m0, m2, m3⟩ := k2 _ ((hM.fM f1).s2 p)
    refine ⟨0, a2, _, h2, ?_, e2, m1, fun _ => ?_, A, E, t, r, u, hw, (x1.fX hw (mk_fX.s2 p)).fX hw m3, m2⟩
    · rw [if_neg n, e1]; rfl
    · rw [m0, mp_L2, if_pos ⟨rfl, rfl⟩]
      dsimp only at g1
      rw [g1]
theorem mi_thrown {A : mk_A} {E : mk_E} {r : Nat → Nat} {u : mk_U} {h : mm_H} (hM : mk_M A E r u h) {v : Int32} {Q : Int32 × mm_H → Prop} {k : mm_H → Option (Int32 × mm_H)} (H : ∀ h1, mk_M A E r u h1 → h1.1 261 0 = v → h1.2.1 = h.2.1 → mk_fX h h1 → mk_ok (k h1) Q) : mk_ok (mm_let (mm_pI h 261 0 v) k) Q := by
  have p0 : mk_s2m h (mm_pI h 261 0 v) := mk_s2m.pI ⟨by decide, by decide⟩
  exact mk_ok.let (H _ (hM.s2 p0) (by rw [mp_I1, if_pos ⟨rfl, rfl⟩]) rfl (mk_fX.s2 p0))
theorem mc_person (x1 x2 : Int32) : mk_callT (t_X_person x1 x2) (f_X_person x1 x2) (f_M_person x1 x2) := by
  refine mk_callTof (fun A E t r u hw => ?_)
  have hT := hw.1
  have hW := hw.2.1
  have hP := hT.1.1
  have hS1 := hT.1.2.1
  by_cases hs : mk_is (A 263 0) x1
  · by_cases hr : 0 ≤ x2 ∧ x2 ≤ 7
    · right
      obtain ⟨p, hp, rfl⟩ := id hs
      obtain ⟨j, hj, rfl⟩ := mk_upto (n := 7) (by omega) hr
      have nt : ∀ h, mk_X A E t r u h → ¬ t_X_person (Int32.ofNat p) (Int32.ofNat j) h := by
        intro h hX ⟨t', v, e1, e2, e3⟩
        rw [mx_gT hX.1.1 hX.2.1.1] at e1
        obtain rfl := Option.some.inj e1
        rw [mx_hasPerson hT hX.2.1, if_pos hs] at e2
        obtain rfl := Option.some.inj e2
        rcases e3 with e3 | ⟨_, e3 | e3⟩
        · exact absurd e3 (by decide)
        · exact absurd e3 (Int32.not_lt.mpr hr.1)
        · exact absurd e3 (Int32.not_lt.mpr hr.2)
      have ix6 : mm_ix (Int32.ofNat p) 6 = some p := mn_ix (by omega) (by omega)
      have ix12 : mm_ix (Int32.ofNat p) 12 = some p := mn_ix (by omega) (by omega)
      have bx : ∀ (a : Int32), (∀ h, mk_X A E t r u h → mk_ok (if Int32.ofNat j = 0 then ((mm_gT h 14).bind fun t5 => (mm_ix (Int32.ofNat p) 6).bind fun k7 => some ((h.1 (t5 + 2) k7), h)) else if Int32.ofNat j = 1 then ((mm_ix (Int32.ofNat p) 6).bind fun k12 => some ((h.1 38 k12), h)) else if Int32.ofNat j = 2 then ((mm_gT h 14).bind fun t17 => (mm_ix (Int32.ofNat p) 6).bind fun k19 => some ((h.1 (t17 + 4) k19), h)) else if Int32.ofNat j = 3 then ((mm_gT h 14).bind fun t24 => (f_St_known 35 t24 (Int32.ofNat p) h).bind fun v27 => some (v27, h)) else if Int32.ofNat j = 4 then ((f_X_weighed 35 h).bind fun v32 => (mm_gT v32 14).bind fun t33 => (f_St_known 35 t33 (Int32.ofNat p) v32).bind fun v36 => (f_X_together 76 v36 v32).bind fun v38 => some (v38, v32)) else if Int32.ofNat j = 5 then ((f_X_bit (h.1 35 7) (Int32.ofNat p)).bind fun v43 => some (v43, h)) else if Int32.ofNat j = 6 then ((mm_ix (Int32.ofNat p) 6).bind fun k47 => some ((h.1 39 k47), h)) else if Int32.ofNat j = 7 then ((mm_ix (Int32.ofNat p) 6).bind fun k52 => some ((h.1 40 k52), h)) else (none)) (fun v => v.1 = a ∧ mk_X A E t r u v.2 ∧ mk_fM h v.2)) → ∀ h, mk_X A E t r u h → ¬ t_X_person (Int32.ofNat p) (Int32.ofNat j) h ∧ mk_ok (f_X_person (Int32.ofNat p) (Int32.ofNat j) h) (fun v => v.1 = a ∧ mk_X A E t r u v.2 ∧ mk_fM h v.2) := by
        intro a H h hX
        refine ⟨nt h hX, ?_⟩
        unfold f_X_person
        refine mk_ok.bs (mx_gT hX.1.1 hX.2.1.1) ?_
        rw [mx_hasPerson hT hX.2.1, if_pos hs]
        refine mk_ok.bs rfl ?_
        rw [if_neg (show ¬ (1 : Int32) = 0 by decide)]
        exact H h hX
      have bm : ∀ (a : Int32), (∀ h, mk_M A E r u h → mk_ok (if 3 ≤ Int32.ofNat j then (if 5 ≤ Int32.ofNat j then (if Int32.ofNat j = 5 then (some ((((h.1 301 78) >>> (Int32.ofNat p &&& 31)) &&& 1), h)) else (if Int32.ofNat j = 6 then ((mm_ix (79 + Int32.ofNat p) 123).bind fun k17 => some ((h.1 301 k17), h)) else ((f_M_net (Int32.ofNat p) h).bind fun v16 => some (v16, h)))) else (if Int32.ofNat j = 3 then ((f_M_knownBy (Int32.ofNat p) h).bind fun v28 => some (v28, h)) else ((f_M_purse (Int32.ofNat p) h).bind fun v26 => some (v26.1, v26.2)))) else (if Int32.ofNat j = 0 then ((mm_ix (Int32.ofNat p) 12).bind fun k42 => some ((h.1 266 k42), h)) else (if Int32.ofNat j = 1 then ((mm_ix (70 + Int32.ofNat p) 123).bind fun k37 => some ((h.1 301 k37), h)) else ((mm_ix (Int32.ofNat p) 12).bind fun k35 => some ((h.1 268 k35), h))))) (fun v => v.1 = a ∧ mk_ch mk_DM h v.2)) → ∀ h, mk_M A E r u h → mk_ok (f_M_person (Int32.ofNat p) (Int32.ofNat j) h) (fun v => v.1 = a ∧ v.2.1 261 0 = 0 ∧ v.2.2.1 316 0 = h.2.1 316 0 ∧ mk_M A E r u v.2 ∧ mk_fX h v.2) := by
        intro a H h hM
        unfold f_M_person
        rw [mi_isPerson hT hM.1, if_pos hs]
        refine mk_ok.bs rfl ?_
        refine mk_ok.bs (v := 0) ?_ ?_
        · rw [if_neg (show ¬ (1 : Int32) = 0 by decide), mp_within, if_pos hr]
          rfl
        refine mi_thrown hM (fun h1 hM1 g1 g2 g3 => ?_)
        rw [g1, if_neg (show ¬ (0 : Int32) = 1 by decide)]
        refine mk_ok.cons (H h1 hM1) (fun v ⟨c1, c2⟩ => ?_)
        obtain ⟨d1, d2⟩ := hM1.DM c2
        refine ⟨c1, ?_, ?_, d1, g3.tr d2⟩
        · rw [c2.e1 (fun z => by unfold mk_DM at z; omega)]; exact g1
        · rw [c2.e2 (fun z => by unfold mk_DM at z; omega), g2]
      have hj' : j = 0 ∨ j = 1 ∨ j = 2 ∨ j = 3 ∨ j = 4 ∨ j = 5 ∨ j = 6 ∨ j = 7 := by omega
      rcases hj' with rfl | rfl | rfl | rfl | rfl | rfl | rfl | rfl
      · refine ⟨Int32.ofNat (A 266 p), bx _ (fun h hX => ?_), bm _ (fun h hM => ?_)⟩
        · rw [if_pos (by decide)]
          refine mk_ok.bs (mx_gT hX.1.1 hX.2.1.1) ?_
          refine mk_ok.bs ix6 ?_
          exact mk_ok.ret ⟨(hX.2.1.2.2.1 p hp).1, hX, mk_fM.rf⟩
        · rw [if_neg (by decide), if_pos (by decide)]
          refine mk_ok.bs ix12 ?_
          exact mk_ok.ret ⟨(hM.1.2.1 p (by omega)).1, mk_ch.rf⟩
      · refine ⟨Int32.ofNat (r (70 + p)), bx _ (fun h hX => ?_), bm _ (fun h hM => ?_)⟩
        · rw [if_neg (by decide), if_pos (by decide)]
          refine mk_ok.bs ix6 ?_
          exact mk_ok.ret ⟨(hX.2.2.1.1.2.2.1 p hp).1, hX, mk_fM.rf⟩
        · rw [if_neg (by decide), if_neg (by decide), if_pos (by decide), mn_ladd 70]
          refine mk_ok.bs (mn_ix (show 70 + p < 123 by omega) (by omega)) ?_
          exact mk_ok.ret ⟨hM.2.1 (70 + p) (by omega), mk_ch.rf⟩
      · refine ⟨Int32.ofNat (A 268 p), bx _ (fun h hX => ?_), bm _ (fun h hM => ?_)⟩
        · rw [if_neg (by decide), if_neg (by decide), if_pos (by decide)]
          refine mk_ok.bs (mx_gT hX.1.1 hX.2.1.1) ?_
          refine mk_ok.bs ix6 ?_
          exact mk_ok.ret ⟨(hX.2.1.2.2.1 p hp).2.2, hX, mk_fM.rf⟩
        · rw [if_neg (by decide), if_neg (by decide), if_neg (by decide)]
          refine mk_ok.bs ix12 ?_
          exact mk_ok.ret ⟨(hM.1.2.1 p (by omega)).2.2, mk_ch.rf⟩
      · refine ⟨Int32.ofNat (mk_kb A r p), bx _ (fun h hX => ?_), bm _ (fun h hM => ?_)⟩
        · rw [if_neg (by decide), if_neg (by decide), if_neg (by decide), if_pos (by decide)]
          refine mk_ok.bs (mx_gT hX.1.1 hX.2.1.1) ?_
          refine mk_ok.bs (mx_known hT hX.2.1 hW hX.2.2.1.1 (by omega)) ?_
          exact mk_ok.ret ⟨rfl, hX, mk_fM.rf⟩
        · rw [if_pos (by decide), if_neg (by decide), if_pos (by decide)]
          refine mk_ok.bs (mi_knownBy hT hM.1 hW hM.2.1 (by omega)) ?_
          exact mk_ok.ret ⟨rfl, mk_ch.rf⟩
      · refine ⟨Int32.ofNat (mk_ws A E r (mk_kb A r p)), bx _ (fun h hX => ?_), bm _ (fun h hM => ?_)⟩
        · rw [if_neg (by decide), if_neg (by decide), if_neg (by decide), if_neg (by decide), if_pos (by decide)]
          refine mk_ok.bind (mx_weighed hT hW hX.1.1 hX.2.1 (Or.inl rfl) hX.2.2.1.1) (fun v32 ⟨c1, c2⟩ => ?_)
          have X32 := hX.DX hw c1
          refine mk_ok.bs (mx_gT X32.1.1 X32.2.1.1) ?_
          refine mk_ok.bs (mx_known hT X32.2.1 hW X32.2.2.1.1 (by omega)) ?_
          refine mk_ok.bs (mx_together hT c2 (mk_kb_lt A r p)) ?_
          exact mk_ok.ret ⟨rfl, X32, mk_DXs c1 hX.2.1.1⟩
        · rw [if_pos (by decide), if_neg (by decide), if_neg (by decide)]
          refine mk_ok.bind (mi_purse hT hW hM.1 hM.2.1 (by omega)) (fun v26 q => ?_)
          exact mk_ok.ret q
      · refine ⟨Int32.ofNat ((r 78).testBit p).toNat, bx _ (fun h hX => ?_), bm _ (fun h hM => ?_)⟩
        · rw [if_neg (by decide), if_neg (by decide), if_neg (by decide), if_neg (by decide), if_neg (by decide), if_pos (by decide)]
          have e : h.1 35 7 = Int32.ofNat (r 78) := hX.2.2.1.1.2.2.2.2.2.1
          have b := mk_p2 hP hW.2.2.2.2.1
          rw [e]
          refine mk_ok.bs (mn_xbit (by omega) (by omega)) ?_
          exact mk_ok.ret ⟨rfl, hX, mk_fM.rf⟩
        · rw [if_pos (by decide), if_pos (by decide), if_pos (by decide)]
          have b := mk_p2 hP hW.2.2.2.2.1
          refine mk_ok.ret ⟨?_, mk_ch.rf⟩
          show (h.1 301 78 >>> (Int32.ofNat p &&& 31)) &&& 1 = _
          rw [hM.2.1 78 (by omega), mn_bit (by omega) (by omega)]
      · refine ⟨Int32.ofNat (r (79 + p)), bx _ (fun h hX => ?_), bm _ (fun h hM => ?_)⟩
        · rw [if_neg (by decide), if_neg (by decide), if_neg (by decide), if_neg (by decide), if_neg (by decide), if_neg (by decide), if_pos (by decide)]
          refine mk_ok.bs ix6 ?_
          exact mk_ok.ret ⟨(hX.2.2.1.1.2.2.1 p hp).2, hX, mk_fM.rf⟩
        · rw [if_pos (by decide), if_pos (by decide), if_neg (by decide), if_pos (by decide), mn_ladd 79]
          refine mk_ok.bs (mn_ix (show 79 + p < 123 by omega) (by omega)) ?_
          exact mk_ok.ret ⟨hM.2.1 (79 + p) (by omega), mk_ch.rf⟩
      · refine ⟨mk_net r p, bx _ (fun h hX => ?_), bm _ (fun h hM => ?_)⟩
        · rw [if_neg (by decide), if_neg (by decide), if_neg (by decide), if_neg (by decide), if_neg (by decide), if_neg (by decide), if_neg (by decide), if_pos (by decide)]
          refine mk_ok.bs ix6 ?_
          exact mk_ok.ret ⟨hX.2.2.1.2.2 p hp, hX, mk_fM.rf⟩
        · rw [if_pos (by decide), if_pos (by decide), if_neg (by decide), if_neg (by decide)]
          refine mk_ok.bs (mi_net hM.2.1 (by omega)) ?_
          exact mk_ok.ret ⟨rfl, mk_ch.rf⟩
    · left
      refine ⟨fun h hX => ⟨t, 1, mx_gT hX.1.1 hX.2.1.1, by rw [mx_hasPerson hT hX.2.1, if_pos hs], Or.inr ⟨by decide, ?_⟩⟩, fun h hM => ?_⟩
      · by_cases h0 : x2 < 0
        · exact Or.inl h0
        · exact Or.inr (Int32.not_le.mp (fun z => hr ⟨Int32.not_lt.mp h0, z⟩))
      · unfold f_M_person
        rw [mi_isPerson hT hM.1, if_pos hs]
        refine mk_ok.bs rfl ?_
        refine mk_ok.bs (v := 1) ?_ ?_
        · rw [if_neg (show ¬ (1 : Int32) = 0 by decide), mp_within, if_neg hr]
          rfl
        refine mi_thrown hM (fun h1 hM1 g1 g2 g3 => ?_)
        rw [g1, if_pos rfl]
        exact mk_ok.ret ⟨g1, hM1, g3⟩
  · left
    refine ⟨fun h hX => ⟨t, 0, mx_gT hX.1.1 hX.2.1.1, by rw [mx_hasPerson hT hX.2.1, if_neg hs], Or.inl rfl⟩, fun h hM => ?_⟩
    unfold f_M_person
    rw [mi_isPerson hT hM.1, if_neg hs]
    refine mk_ok.bs rfl ?_
    refine mk_ok.bs (v := 1) ?_ ?_
    · rw [if_pos rfl]
    refine mi_thrown hM (fun h1 hM1 g1 g2 g3 => ?_)
    rw [g1, if_pos rfl]
    exact mk_ok.ret ⟨g1, hM1, g3⟩
