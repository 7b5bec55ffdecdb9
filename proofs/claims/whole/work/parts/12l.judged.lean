/-! judged, the reference's side -/
theorem mi_fines {r : Nat → Nat} {h : mm_H} (hR : mk_MR r h) : f_M_finesOfAll h = some (Int32.ofNat (mk_F r)) := by
  have : mk_ok (f_M_finesOfAll h) (fun v => v = Int32.ofNat (mk_F r)) := by
    unfold f_M_finesOfAll
    refine mk_ok.bind (mk_ok.for (ρ := Int32) (Q := fun v => v = Int32.ofNat (mk_F r)) 6 (fun i s => s.2 = Int32.ofNat i ∧ s.1 = Int32.ofNat (mk_sum (fun p => r (79 + p)) i)) ⟨rfl, rfl⟩ (fun i s hi ⟨e1, e2⟩ => ?_) (fun s ⟨e1, e2⟩ => ?_)) (fun v q => mk_ok.ret q)
    · rw [e1, e2, if_neg (fun z => absurd ((mn_lle (b := 6) (show i < 2147483648 by omega) (by decide)).mp z) (show ¬ 6 ≤ i by omega)), mn_ladd 79]
      refine mk_ok.bs (mn_ix (show 79 + i < 123 by omega) (by omega)) ?_
      rw [hR _ (show 79 + i < 123 by omega), mn_add]
      refine mk_ok.let ?_
      refine mk_ok.let ?_
      rw [mn_addl 1]
      exact mk_ok.inl ⟨rfl, rfl⟩
    · rw [e1, if_pos (by decide)]
      exact mk_ok.inr e2
  obtain ⟨v, e, q⟩ := this
  rw [e, q]
def mk_DK (c : Nat) : Prop := c = 301 ∨ mk_DM c
theorem mi_judge {A : mk_A} {E : mk_E} {r : Nat → Nat} {u : mk_U} {h : mm_H} (hw : mk_wf A r u) (hM : mk_M A E r u h) {x : Nat} (hx : x ≤ 2) : mk_ok (f_M_judged (Int32.ofNat x) h) (fun v => v.1 = (if x = 0 then Int32.ofNat (mk_run A E u (u 30 0)).1 - 1 else if x = 1 then Int32.ofNat (mk_F (mk_run A E u (u 30 0)).2) else Int32.ofNat (mk_ws A E (mk_run A E u (u 30 0)).2 (2 ^ A 263 1 - 1))) ∧ mk_M A E r u v.2 ∧ mk_fX h v.2) := by
  have hT := hw.1
  have hP := hT.1.1
  have hS1 := hT.1.2.1
  have hTW := hw.2.2.2.2.1
  have hn : u 30 0 ≤ 30 := hTW.1
  have hr : 0 ≤ Int32.ofNat x ∧ Int32.ofNat x ≤ 2 := ⟨(mn_lle (b := 0) (show x < 2147483648 by omega) (by decide)).mpr (Nat.zero_le _), (mn_lel (b := 2) (show x < 2147483648 by omega) (by decide)).mpr hx⟩
  unfold f_M_judged
  refine mk_ok.let ?_
  have p0 : mk_s2m h (mm_pI h 261 0 0) := mk_s2m.pI ⟨by decide, by decide⟩
  have hM1 := hM.s2 p0
  revert p0 hM1
  generalize mm_pI h 261 0 0 = h1
  intro p0 hM1
  refine mk_ok.bs (mp_within _ _ _) ?_
  rw [if_pos hr, if_neg (by decide)]
  obtain ⟨m1, m2, m3, m4, m5, m6, m7⟩ := hM1
  refine mk_ok.bind (mi_copies (x := 0) (y := 0) mk_ptag.2.2.1 mk_ptag.2.2.2.1 (by decide) (by omega) (by omega) (by omega)) (fun v6 ⟨y1, y2⟩ => ?_)
  have k6 : mk_ch (fun c => c = 302) h1 v6 := ⟨fun c hc => ⟨funext fun j => by rw [y2, if_neg (fun z => hc z.1)], by rw [y1]⟩, by rw [y1]⟩
  have c6 : ∀ j, j < 123 → v6.1 302 j = Int32.ofNat (r j) := fun j hj => by
    rw [y2, if_pos ⟨rfl, by omega, by omega⟩, show 0 + (j - 0) = j by omega]
    exact m2 j hj
  refine mk_ok.bind (mi_fresh hT (m1.ch k6 (fun c z => by omega))) (fun v8 ⟨a1, a2⟩ => ?_)
  have DM1 : ∀ c, mk_DK c → c = 301 ∨ (281 ≤ c ∧ c ≤ 292) := fun c z => by unfold mk_DK mk_DM at z; omega
  have mM : ∀ {v}, mk_ch mk_DK v6 v → mk_MT A E v := fun k => (m1.ch k6 (fun c z => by omega)).ch k (fun c z => by have := DM1 c z; omega)
  have hTM := m5.ch k6 (fun c z => by omega)
  refine mk_ok.bind (mk_ok.for (ρ := (Int32 × mm_H)) (Q := fun v => v.1 = Int32.ofNat (mk_run A E u (u 30 0)).1 - 1 ∧ mk_ch mk_DK v6 v.2 ∧ mk_MR (mk_run A E u (u 30 0)).2 v.2) (u 30 0) (fun i (s : Int32 × Int32 × mm_H) => s.2.1 = Int32.ofNat i ∧ s.1 = Int32.ofNat (mk_run A E u i).1 - 1 ∧ mk_ch mk_DK v6 s.2.2 ∧ mk_MR (mk_run A E u i).2 s.2.2) ⟨rfl, rfl, a1.mono (D := mk_DK) (fun c z => Or.inl z), a2⟩ (fun i s hi ⟨e1, q1, q2, q3⟩ => ?_) (fun s ⟨e1, q1, q2, q3⟩ => ?_)) (fun v12 ⟨b1, b2, b3⟩ => ?_)
  · have nn : ∀ c, 293 ≤ c → c ≤ 297 → s.2.2.1 c = v6.1 c := fun c h1 h2 => q2.e1 (fun z => by have := DM1 c z; omega)
    have hl := hTW.lw hi
    have hl3 := hl.1
    obtain ⟨f0, f1, f2, f3⟩ := hTM.2.2.1 i hi
    rw [show 30 * 0 + i = i by omega] at f0 f1 f2 f3
    have RL := mk_run_le (A := A) (E := E) (u := u) i
    have W' := mk_run_W (E := E) hT hTW i (by omega)
    have e0 : v6.1 293 0 = Int32.ofNat (u 30 0) := hTM.1
    rw [e1, nn 293 (by omega) (by omega), e0, if_neg (fun z => absurd ((mn_le (by omega) (by omega)).mp z) (show ¬ u 30 0 ≤ i by omega))]
    refine mk_ok.bind (mi_goes hT W' (mM q2) q3 (show i < 30 by omega) hl (by rw [nn 294 (by omega) (by omega)]; exact f0) (fun z => by rw [nn 295 (by omega) (by omega)]; exact f1 z) (fun z => by rw [nn 296 (by omega) (by omega)]; exact f2 z) (fun z => by rw [nn 297 (by omega) (by omega)]; exact f3 z)) (fun v16 ⟨c1, c2, c3⟩ => ?_)
    have er : mk_run A E u (i + 1) = (if (mk_run A E u i).1 = 0 ∧ (mk_go A E (mk_run A E u i).2 (u 31 i) (u 32 i) (u 33 i) (u 34 i)).1 = false then i + 1 else (mk_run A E u i).1, (mk_go A E (mk_run A E u i).2 (u 31 i) (u 32 i) (u 33 i) (u 34 i)).2) := rfl
    have kc := q2.tr c2 (fun _ z => z) (fun c z => (z : mk_DK c))
    refine mk_ok.bs (v := Int32.ofNat (mk_run A E u (i + 1)).1 - 1) ?_ ?_
    · rw [c1, q1, er]
      generalize mk_go A E (mk_run A E u i).2 (u 31 i) (u 32 i) (u 33 i) (u 34 i) = g
      obtain ⟨g1, g2⟩ := g
      dsimp only
      cases g1
      · rw [if_pos (by decide)]
        by_cases z : (mk_run A E u i).1 = 0
        · rw [if_neg (fun y => (mn_rp (by omega)).mp y z), if_pos ⟨z, rfl⟩, mn_on1 (by omega)]; rfl
        · rw [if_pos ((mn_rp (by omega)).mpr z), if_neg (fun y => z y.1)]
      · rw [if_neg (by decide), if_neg (fun y => absurd y.2 (by decide))]
    · refine mk_ok.let ?_
      rw [mn_addl 1]
      exact mk_ok.inl ⟨rfl, rfl, kc, c3⟩
  · have e0 : v6.1 293 0 = Int32.ofNat (u 30 0) := hTM.1
    rw [e1, q2.e1 (c := 293) (fun z => by have := DM1 _ z; omega), e0, if_pos (Int32.le_refl _)]
    exact mk_ok.inr ⟨q1, q2, q3⟩
  have W' := mk_run_W (E := E) hT hTW _ (Nat.le_refl _)
  refine mk_ok.bind (Q := fun v => v.1 = (if x = 0 then Int32.ofNat (mk_run A E u (u 30 0)).1 - 1 else if x = 1 then Int32.ofNat (mk_F (mk_run A E u (u 30 0)).2) else Int32.ofNat (mk_ws A E (mk_run A E u (u 30 0)).2 (2 ^ A 263 1 - 1))) ∧ mk_ch mk_DK v6 v.2) ?_ (fun j31 ⟨d1, d2⟩ => ?_)
  · have hc : x = 0 ∨ x = 1 ∨ x = 2 := by omega
    rcases hc with rfl | rfl | rfl
    · rw [if_pos (show Int32.ofNat 0 = 0 by decide), if_pos rfl]
      exact mk_ok.ret ⟨b1, b2⟩
    · rw [if_neg (show ¬ Int32.ofNat 1 = 0 by decide), if_pos (show Int32.ofNat 1 = 1 by decide), if_neg (by decide), if_pos rfl]
      refine mk_ok.bs (mi_fines b3) ?_
      exact mk_ok.ret ⟨rfl, b2⟩
    · rw [if_neg (show ¬ Int32.ofNat 2 = 0 by decide), if_neg (show ¬ Int32.ofNat 2 = 1 by decide), if_neg (by decide), if_neg (by decide)]
      have M12 := mM b2
      refine mk_ok.bs (v := Int32.ofNat (2 ^ A 263 1 - 1)) ?_ ?_
      · unfold f_M_allSecrets
        rw [M12.1 1 (by omega), mk_all hS1]
      have la : 2 ^ A 263 1 - 1 < 2147483648 := Nat.lt_trans (mk_s2 hS1 mk_all_lt) (by decide)
      refine mk_ok.bind (mi_worthsOf hT W' M12 b3 la) (fun v36 ⟨c1, c2⟩ => ?_)
      exact mk_ok.ret ⟨c1, b2.tr c2 (fun _ z => z) (fun c z => Or.inr z)⟩
  refine mk_ok.bind (mi_copies (x := 0) (y := 0) mk_ptag.2.2.2.1 mk_ptag.2.2.1 (by decide) (by omega) (by omega) (by omega)) (fun v46 ⟨z1, z2⟩ => ?_)
  have kz : mk_ch mk_DK j31.2 v46 := ⟨fun c hc => ⟨funext fun j => by rw [z2, if_neg (fun z => hc (Or.inl z.1))], by rw [z1]⟩, by rw [z1]⟩
  have kk : mk_ch (fun c => c = 302 ∨ mk_DK c) h1 v46 := (k6.tr d2 (fun c z => Or.inl z) (fun c z => Or.inr z) : mk_ch (fun c => c = 302 ∨ mk_DK c) h1 j31.2).tr kz (fun _ z => z) (fun c z => Or.inr z)
  have DK : ∀ c, (c = 302 ∨ mk_DK c) → c = 301 ∨ c = 302 ∨ (281 ≤ c ∧ c ≤ 292) := fun c z => by unfold mk_DK mk_DM at z; omega
  refine mk_ok.ret ⟨d1, ⟨m1.ch kk (fun c z => by have := DK c z; omega), fun j hj => ?_, m3.ch kk (kk.e1 (c := 261) (fun z => by have := DK _ z; omega) ▸ rfl) (fun z => by have := DK _ z; omega), m4.ch kk (fun c z => by have := DK c z; omega), m5.ch kk (fun c z => by have := DK c z; omega), m6.ch kk (kk.e1 (c := 261) (fun z => by have := DK _ z; omega) ▸ rfl) (fun z => by have := DK _ z; omega), m7.ch kk ⟨fun z => by have := DK _ z; omega, fun z => by have := DK _ z; omega⟩⟩, (mk_fX.s2 p0).tr (mk_fX.of kk (fun c z => by have := DK c z; omega))⟩
  rw [z2, if_pos ⟨rfl, by omega, by omega⟩, show 0 + (j - 0) = j by omega, d2.e1 (c := 302) (fun z => by have := DM1 _ z; omega)]
  exact c6 j hj
theorem mc_judged (x1 : Int32) : mk_call (f_X_judged x1) (f_M_judged x1) := by
  refine mk_callof (fun A E t r u hw => ?_)
  by_cases hr : 0 ≤ x1 ∧ x1 ≤ 2
  · obtain ⟨x, hx, rfl⟩ := mk_upto (n := 2) (by omega) hr
    refine ⟨_, r, u, t, hw, fun h hX => ?_, fun h hM => mi_judge hw hM hx⟩
    unfold f_X_judged
    simp only [mm_jp]
    rw [if_neg (Int32.not_lt.mpr hr.1), if_pos hr.2]
    refine mk_ok.bind (mx_judge hw hX) (fun v5 ⟨a1, a2, a3, a4⟩ => ?_)
    refine mk_ok.bs (mn_ix (show x < 4 by omega) (by omega)) ?_
    have hd : ∀ c, mk_DJ t c → (41 ≤ c ∧ c ≤ 46) ∨ c = 76 ∨ c = t + 16 ∨ c = 78 := fun c z => mk_DJ1 hX.2.1.1 z
    have ht := hX.2.1.1
    refine mk_ok.ret ⟨?_, hX.ch hw a1 (fun c z => by have := hd c z; unfold mk_sx; omega), mk_fM.of a1 (fun c z => by have := hd c z; omega)⟩
    have hc : x = 0 ∨ x = 1 ∨ x = 2 := by omega
    rcases hc with rfl | rfl | rfl
    · rw [if_pos rfl]; exact a2
    · rw [if_neg (by decide), if_pos rfl]; exact a3
    · rw [if_neg (by decide), if_neg (by decide)]; exact a4
  · refine ⟨-2, r, u, t, hw, fun h hX => ?_, fun h hM => ?_⟩
    · unfold f_X_judged
      simp only [mm_jp]
      by_cases h0 : x1 < 0
      · rw [if_pos h0]
        exact mk_ok.ret ⟨rfl, hX, mk_fM.rf⟩
      · rw [if_neg h0, if_neg (fun z => hr ⟨Int32.not_lt.mp h0, z⟩)]
        exact mk_ok.ret ⟨rfl, hX, mk_fM.rf⟩
    · unfold f_M_judged
      refine mk_ok.let ?_
      have p0 : mk_s2m h (mm_pI h 261 0 0) := mk_s2m.pI ⟨by decide, by decide⟩
      refine mk_ok.bs (mp_within _ _ _) ?_
      rw [if_neg hr, if_pos (by decide)]
      exact mk_ok.ret ⟨rfl, hM.s2 p0, mk_fX.s2 p0⟩
