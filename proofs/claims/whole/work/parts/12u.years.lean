/-! years -/
theorem mk_yr_eq (A : mk_A) (E : mk_E) (r : Nat → Nat) (g n : Nat) : mk_yr A E r g (n + 1) = if (1 + n) % 10 = 0 then ((mk_yr A E r g n).1 + (mk_wh A (mk_yr A E r g n).2.2.1 (mk_yr A E r g n).2.2.2 (A 263 2)).1, (mk_yr A E r g n).2.1 + mk_pc (mk_owes A (mk_qd A E (mk_wh A (mk_yr A E r g n).2.2.1 (mk_yr A E r g n).2.2.2 (A 263 2)).2.1 (A 263 0))), mk_pass A (mk_qd A E (mk_wh A (mk_yr A E r g n).2.2.1 (mk_yr A E r g n).2.2.2 (A 263 2)).2.1 (A 263 0)), (mk_wh A (mk_yr A E r g n).2.2.1 (mk_yr A E r g n).2.2.2 (A 263 2)).2.2) else ((mk_yr A E r g n).1 + (mk_wh A (mk_yr A E r g n).2.2.1 (mk_yr A E r g n).2.2.2 (A 263 2)).1, (mk_yr A E r g n).2.1, (mk_wh A (mk_yr A E r g n).2.2.1 (mk_yr A E r g n).2.2.2 (A 263 2)).2.1, (mk_wh A (mk_yr A E r g n).2.2.1 (mk_yr A E r g n).2.2.2 (A 263 2)).2.2) := rfl
def mk_DY (t c : Nat) : Prop := c = 32 ∨ (41 ≤ c ∧ c ≤ 46) ∨ c = 65 ∨ c = 76 ∨ c = t + 16 ∨ c = 78
def mk_YX (A : mk_A) (t : Nat) (h0 : mm_H) (y : Nat × Nat × (Nat → Nat) × Nat) (v : mm_H) : Prop := mk_ch (mk_DY t) h0 v ∧ v.1 32 = h0.1 32 ∧ mk_XS A 41 y.2.2.1 v ∧ mk_XA A 41 y.2.2.1 v ∧ v.2.1 32 19 = Int64.ofNat y.2.2.2 ∧ v.1 78 0 = Int32.ofNat y.1 ∧ v.1 78 1 = Int32.ofNat y.2.1
theorem mx_live {A : mk_A} {E : mk_E} {t : Nat} {r : Nat → Nat} {u : mk_U} {h : mm_H} (hw : mk_wf A r u) (hX : mk_X A E t r u h) {g Y : Nat} (hg : g ≤ 9999) (hY : Y ≤ 100) : mk_ok (f_X_live (Int32.ofNat g) (Int32.ofNat Y) h) (fun v => mk_ch (mk_DY t) h v ∧ v.1 32 = h.1 32 ∧ v.1 78 0 = Int32.ofNat (mk_yr A E r g Y).1 ∧ v.1 78 1 = Int32.ofNat (mk_yr A E r g Y).2.1 ∧ v.1 78 2 = Int32.ofNat (mk_ws A E (mk_yr A E r g Y).2.2.1 (2 ^ A 263 1 - 1))) := by
  have hT := hw.1
  have hW := hw.2.1
  have hP := hT.1.1
  have hS1 := hT.1.2.1
  have hE := hT.1.2.2.1
  have hXT := hX.2.1
  have ht := hXT.1
  have D1 : ∀ c, mk_DY t c → c < t ∨ t + 15 < c := fun c z => by unfold mk_DY at z; omega
  unfold f_X_live
  refine mk_ok.bind (mx_copyFrom (a := 41) hT hX.2.2.1 mk_ftags.2.2.2.2.2.2.2 (by omega)) (fun v2 ⟨a1, a2⟩ => ?_)
  refine mk_ok.let ?_
  refine mk_ok.let ?_
  refine mk_ok.let ?_
  rw [mn_3264 (show g < 2147483648 by omega)]
  have start : mk_YX A t h (mk_yr A E r g 0) (mm_pI (mm_pI (mm_pL v2 32 19 (Int64.ofNat g)) 78 0 0) 78 1 0) := by
    have k1 : mk_ch (mk_DY t) v2 (mm_pI (mm_pI (mm_pL v2 32 19 (Int64.ofNat g)) 78 0 0) 78 1 0) := ((mk_ch.pL (D := mk_DY t) (Or.inl rfl)).tr (mk_ch.pI (D := mk_DY t) (by unfold mk_DY; omega)) (fun _ z => z) (fun _ z => z)).tr (mk_ch.pI (D := mk_DY t) (by unfold mk_DY; omega)) (fun _ z => z) (fun _ z => z)
    have k78 : mk_ch (fun c => c = 32 ∨ c = 78) v2 (mm_pI (mm_pI (mm_pL v2 32 19 (Int64.ofNat g)) 78 0 0) 78 1 0) := ((mk_ch.pL (D := fun c => c = 32 ∨ c = 78) (Or.inl rfl)).tr (mk_ch.pI (D := fun c => c = 32 ∨ c = 78) (Or.inr rfl)) (fun _ z => z) (fun _ z => z)).tr (mk_ch.pI (D := fun c => c = 32 ∨ c = 78) (Or.inr rfl)) (fun _ z => z) (fun _ z => z)
    refine ⟨a1.tr k1 (fun c z => by unfold mk_DY; omega) (fun _ z => z), ?_, a2.1.ch k78 (fun c z => by omega), a2.2.1.ch k78 (by omega), ?_, ?_, ?_⟩
    · funext j
      rw [mp_I1, if_neg (by omega), mp_I1, if_neg (by omega), mp_L1, a1.e1 (by omega)]
    · rw [mp_I2, mp_I2, mp_L2, if_pos ⟨rfl, rfl⟩]; rfl
    · rw [mp_I1, if_neg (by omega), mp_I1, if_pos ⟨rfl, rfl⟩]; rfl
    · rw [mp_I1, if_pos ⟨rfl, rfl⟩]; rfl
  generalize mm_pI (mm_pI (mm_pL v2 32 19 (Int64.ofNat g)) 78 0 0) 78 1 0 = h7 at start ⊢
  refine mk_ok.bind (mk_ok.for (ρ := mm_H) Y (fun i (s : Int32 × mm_H) => s.1 = Int32.ofNat (1 + i) ∧ mk_YX A t h (mk_yr A E r g i) s.2) (Q := fun v : mm_H => mk_YX A t h (mk_yr A E r g Y) v) ⟨rfl, start⟩ (fun i s hi ⟨e1, q⟩ => ?_) (fun s ⟨e1, q⟩ => ?_)) (fun v12 ⟨b1, b2, b3, b4, b5, b6, b7⟩ => ?_)
  · obtain ⟨W', G'⟩ := mk_yr_W (E := E) hT hW (show g < 2147483648 by omega) i
    rw [e1, if_neg (fun z => absurd ((mn_lt (by omega) (by omega)).mp z) (show ¬ Y < 1 + i by omega)), mk_yr_eq]
    generalize mk_yr A E r g i = y at *
    obtain ⟨y0, y1, y2, y3⟩ := y
    obtain ⟨q1, q2, q3, q4, q5, q6, q7⟩ := q
    dsimp only at *
    obtain ⟨WE, GE⟩ := mk_wh_W (g := y3) hT W' G' (A 263 2) (Nat.le_refl _)
    refine mk_ok.bind (mk_ok.for (ρ := mm_H) (A 263 2) (fun j (z : Int32 × mm_H) => z.1 = Int32.ofNat j ∧ mk_YX A t h (y0 + (mk_wh A y2 y3 j).1, y1, (mk_wh A y2 y3 j).2) z.2) (Q := fun v : mm_H => mk_YX A t h (y0 + (mk_wh A y2 y3 (A 263 2)).1, y1, (mk_wh A y2 y3 (A 263 2)).2) v) ⟨rfl, q1, q2, q3, q4, q5, q6, q7⟩ (fun j z hj ⟨f1, f⟩ => ?_) (fun z ⟨f1, f⟩ => ?_)) (fun v18 d => ?_)
    · obtain ⟨f2, f3, f4, f5, f6, f7, f8⟩ := f
      obtain ⟨WJ, GJ⟩ := mk_wh_W (g := y3) hT W' G' j (by omega)
      have X' := hXT.ch f2 D1
      have hh' : z.2.2.2 32 14 = some t := by rw [f2.2]; exact hX.1.1
      have es : mk_wh A y2 y3 (j + 1) = ((mk_wh A y2 y3 j).1 + (mk_ue A (mk_wh A y2 y3 j).2.1 (mk_wh A y2 y3 j).2.2 j).1, (mk_ue A (mk_wh A y2 y3 j).2.1 (mk_wh A y2 y3 j).2.2 j).2) := rfl
      rw [es]
      generalize mk_wh A y2 y3 j = w at *
      obtain ⟨w0, w1, w2⟩ := w
      dsimp only at *
      refine mk_ok.bs (mx_gT hh' ht) ?_
      rw [X'.2.1.2.2.1, f1, if_neg (fun z => absurd ((mn_le (by omega) (by omega)).mp z) (show ¬ A 263 2 ≤ j by omega))]
      refine mk_ok.bs (mx_gT hh' ht) ?_
      refine mk_ok.bs (mn_ix (show j < 30 by omega) (by omega)) ?_
      refine mk_ok.bs (mx_gT hh' ht) ?_
      refine mk_ok.bs (mn_ix (show j < 30 by omega) (by omega)) ?_
      rw [(X'.2.2.2.2.1 j hj).1, (X'.2.2.2.2.1 j hj).2]
      refine mk_ok.bind (mx_useEar hT WJ hh' X' f4 f5 hj GJ f6) (fun v32 ⟨g1, g2, g3, g4, g5, g6⟩ => ?_)
      refine mk_ok.let ?_
      refine mk_ok.let ?_
      rw [f7, g1, mn_add, mn_addl 1, Nat.add_assoc]
      have kk : mk_ch (fun c => c = 78) v32.2 (mm_pI v32.2 78 0 (Int32.ofNat (y0 + (w0 + (mk_ue A w1 w2 j).1)))) := mk_ch.pI (D := fun c => c = 78) rfl
      refine mk_ok.inl ⟨rfl, (f2.tr g2 (fun _ z => z) (fun c z => by unfold mk_DY; omega)).tr kk (fun _ z => z) (fun c z => by unfold mk_DY; omega), ?_, g4.ch kk (fun c z => by omega), g5.ch kk (by omega), ?_, ?_, ?_⟩
      · rw [kk.e1 (by omega), g3]; exact f3
      · exact g6
      · rw [mp_I1, if_pos ⟨rfl, rfl⟩]
      · rw [mp_I1, if_neg (by omega), g2.e1 (by omega)]; exact f8
    · have X' := hXT.ch f.1 D1
      refine mk_ok.bs (mx_gT (by rw [f.1.2]; exact hX.1.1) ht) ?_
      rw [X'.2.1.2.2.1, f1, if_pos (Int32.le_refl _)]
      exact mk_ok.inr f
    obtain ⟨d1, d2, d3, d4, d5, d6, d7⟩ := d
    generalize mk_wh A y2 y3 (A 263 2) = w at *
    obtain ⟨w0, w1, w2⟩ := w
    dsimp only at *
    refine mk_ok.bind (Q := fun v : mm_H => mk_YX A t h (if (1 + i) % 10 = 0 then (y0 + w0, y1 + mk_pc (mk_owes A (mk_qd A E w1 (A 263 0))), mk_pass A (mk_qd A E w1 (A 263 0)), w2) else (y0 + w0, y1, w1, w2)) v) ?_ (fun v q => ?_)
    · have er : Int32.ofNat (1 + i) - Int32.ofNat (1 + i) / 10 * 10 = Int32.ofNat ((1 + i) % 10) := mn_reml (b := 10) (by omega) (by decide)
      rw [er]
      by_cases c : (1 + i) % 10 = 0
      · rw [if_pos ((mn_eql (b := 0) (show (1 + i) % 10 < 4294967296 by omega) (by decide)).mpr c), if_pos c]
        have X' := hXT.ch d1 D1
        have hh' : v18.2.2 32 14 = some t := by rw [d1.2]; exact hX.1.1
        refine mk_ok.bind (mx_qDay (E := E) hT WE hh' X' d3 d4) (fun v43 ⟨g1, g2, g3, g4⟩ => ?_)
        have ob : mk_owes A (mk_qd A E w1 (A 263 0)) < 1024 := Nat.lt_of_lt_of_le (mk_p2 hP (mk_set_lt _ _)) (by decide)
        rw [g1]
        refine mk_ok.bs (mn_bc ob) ?_
        refine mk_ok.let ?_
        rw [d7, mn_add]
        have g2' : mk_ch (fun c => c = 65 ∨ c = 41 ∨ c = 45 ∨ c = 76 ∨ c = t + 16) v18 v43.2 := g2
        have kk : mk_ch (fun c => c = 78) v43.2 (mm_pI v43.2 78 1 (Int32.ofNat (y1 + mk_pc (mk_owes A (mk_qd A E w1 (A 263 0)))))) := mk_ch.pI (D := fun c => c = 78) rfl
        refine mk_ok.ret ⟨(d1.tr g2' (fun _ z => z) (fun c z => by unfold mk_DY; omega)).tr kk (fun _ z => z) (fun c z => by unfold mk_DY; omega), ?_, g3.ch kk (fun c z => by omega), g4.ch kk (by omega), ?_, ?_, ?_⟩
        · rw [kk.e1 (by omega), g2'.e1 (by omega)]; exact d2
        · rw [kk.e2 (by omega), g2'.e2 (by omega)]; exact d5
        · rw [mp_I1, if_neg (by omega), g2'.e1 (by omega)]; exact d6
        · rw [mp_I1, if_pos ⟨rfl, rfl⟩]
      · rw [if_neg (fun z => c ((mn_eql (b := 0) (show (1 + i) % 10 < 4294967296 by omega) (by decide)).mp z)), if_neg c]
        exact mk_ok.ret ⟨d1, d2, d3, d4, d5, d6, d7⟩
    · refine mk_ok.let ?_
      rw [mn_addl 1]
      exact mk_ok.inl ⟨rfl, q⟩
  · rw [e1, if_pos ((mn_lt (by omega) (by omega)).mpr (show Y < 1 + Y by omega))]
    exact mk_ok.inr q
  obtain ⟨W', G'⟩ := mk_yr_W (E := E) hT hW (show g < 2147483648 by omega) Y
  have X12 := hXT.ch b1 D1
  have hh' : v12.2.2 32 14 = some t := by rw [b1.2]; exact hX.1.1
  refine mk_ok.bind (mx_weighed hT W' hh' X12 (Or.inr rfl) b3) (fun v58 ⟨c1, c2⟩ => ?_)
  have X58 := X12.ch c1 (mk_DX1 X12)
  refine mk_ok.bs (mx_gT (by rw [c1.2]; exact hh') ht) ?_
  have eall : f_To_allSecrets t v58 = some (Int32.ofNat (2 ^ A 263 1 - 1)) := by
    unfold f_To_allSecrets
    rw [if_pos (mk_tt ht).1, X58.2.1.2.1, mk_all hS1]
  refine mk_ok.bs eall ?_
  refine mk_ok.bs (mx_together hT c2 mk_all_lt) ?_
  refine mk_ok.let ?_
  have c1' : mk_ch (fun c => c = 76 ∨ c = t + 16) v12 v58 := c1
  have kk : mk_ch (fun c => c = 78) v58 (mm_pI v58 78 2 (Int32.ofNat (mk_ws A E (mk_yr A E r g Y).2.2.1 (2 ^ A 263 1 - 1)))) := mk_ch.pI (D := fun c => c = 78) rfl
  refine mk_ok.ret ⟨(b1.tr c1' (fun _ z => z) (fun c z => by unfold mk_DY; omega)).tr kk (fun _ z => z) (fun c z => by unfold mk_DY; omega), ?_, ?_, ?_, ?_⟩
  · rw [kk.e1 (by omega), c1'.e1 (by omega)]; exact b2
  · rw [mp_I1, if_neg (by omega), c1'.e1 (by omega)]; exact b6
  · rw [mp_I1, if_neg (by omega), c1'.e1 (by omega)]; exact b7
  · rw [mp_I1, if_pos ⟨rfl, rfl⟩]
theorem mk_X.ch32 {D : Nat → Prop} {A : mk_A} {E : mk_E} {t : Nat} {r : Nat → Nat} {u : mk_U} {h h' : mm_H} (hw : mk_wf A r u) (q : mk_X A E t r u h) (k : mk_ch D h h') (e : h'.1 32 = h.1 32) (hD : ∀ c, D c → c = 32 ∨ mk_sx t c ∨ 261 ≤ c) : mk_X A E t r u h' := by
  have ht := q.2.1.1
  have k1 : mk_ch (fun c => D c ∧ ¬ c = 32) h (h'.1, (fun c => if c = 32 then h.2.1 32 else h'.2.1 c), h'.2.2) := by
    refine ⟨fun c hc => ?_, k.2⟩
    by_cases z : c = 32
    · subst z; exact ⟨e, rfl⟩
    · have := k.1 c (fun y => hc ⟨y, z⟩)
      exact ⟨this.1, (if_neg z).trans this.2⟩
  have q1 := q.ch hw k1 (fun c z => (hD c z.1).resolve_left z.2)
  have k2 : mk_ch (fun c => c = 32) (h'.1, (fun c => if c = 32 then h.2.1 32 else h'.2.1 c), h'.2.2) h' := ⟨fun c hc => ⟨rfl, (if_neg hc).symm⟩, rfl⟩
  obtain ⟨p0, p1, p2, p3, p4, p5, p6, p7⟩ := q1
  refine ⟨p0, p1.ch k2 (fun c z => by omega), p2.ch k2 (fun c z => by omega), ⟨p3.1, p3.2.1, fun i hi => (p3.2.2 i hi).ch k2 (fun c z => by omega)⟩, ⟨p4.1, fun m hm hb => ⟨(p4.2 m hm hb).1.ch k2 (fun c z => by omega), (p4.2 m hm hb).2.ch k2 (fun c z => by omega)⟩⟩, p5.ch k2 (fun c z => by omega), p6.ch k2 ⟨by omega, by omega⟩, p7.ch k2 ⟨by omega, by omega⟩⟩
def mk_DZ (c : Nat) : Prop := c = 261 ∨ c = 301 ∨ (281 ≤ c ∧ c ≤ 292)
def mk_YM (h0 : mm_H) (y : Nat × Nat × (Nat → Nat) × Nat) (v : mm_H) : Prop := mk_ch mk_DZ h0 v ∧ v.1 261 = h0.1 261 ∧ mk_MR y.2.2.1 v ∧ v.2.1 261 69 = Int64.ofNat y.2.2.2
theorem mi_years {A : mk_A} {E : mk_E} {r : Nat → Nat} {u : mk_U} {h : mm_H} (hw : mk_wf A r u) (hM : mk_M A E r u h) {g Y x : Nat} (hg : g ≤ 9999) (hY : 1 ≤ Y ∧ Y ≤ 100) (hx : x ≤ 2) : mk_ok (f_M_years (Int32.ofNat g) (Int32.ofNat Y) (Int32.ofNat x) h) (fun v => v.1 = (if x = 0 then Int32.ofNat (mk_yr A E r g Y).1 else if x = 1 then Int32.ofNat (mk_yr A E r g Y).2.1 else Int32.ofNat (mk_ws A E (mk_yr A E r g Y).2.2.1 (2 ^ A 263 1 - 1))) ∧ mk_M A E r u v.2 ∧ mk_fX h v.2) := by
  have hT := hw.1
  have hW := hw.2.1
  have hP := hT.1.1
  have hS1 := hT.1.2.1
  have r1 : 0 ≤ Int32.ofNat g ∧ Int32.ofNat g ≤ 9999 := ⟨(mn_lle (b := 0) (show g < 2147483648 by omega) (by decide)).mpr (Nat.zero_le _), (mn_lel (b := 9999) (show g < 2147483648 by omega) (by decide)).mpr hg⟩
  have r2 : 1 ≤ Int32.ofNat Y ∧ Int32.ofNat Y ≤ 100 := ⟨(mn_lle (b := 1) (show Y < 2147483648 by omega) (by decide)).mpr hY.1, (mn_lel (b := 100) (show Y < 2147483648 by omega) (by decide)).mpr hY.2⟩
  have r3 : 0 ≤ Int32.ofNat x ∧ Int32.ofNat x ≤ 2 := ⟨(mn_lle (b := 0) (show x < 2147483648 by omega) (by decide)).mpr (Nat.zero_le _), (mn_lel (b := 2) (show x < 2147483648 by omega) (by decide)).mpr hx⟩
  unfold f_M_years
  refine mk_ok.let ?_
  have p0 : mk_s2m h (mm_pI h 261 0 0) := mk_s2m.pI ⟨by decide, by decide⟩
  have hM1 := hM.s2 p0
  revert p0 hM1
  generalize mm_pI h 261 0 0 = h1
  intro p0 hM1
  refine mk_ok.bs (mp_within _ _ _) ?_
  rw [if_pos r1, if_neg (show ¬ (1 : Int32) = 0 by decide)]
  refine mk_ok.bs (mp_within _ _ _) ?_
  rw [if_pos r2, if_neg (show ¬ (1 : Int32) = 0 by decide)]
  refine mk_ok.bs (mp_within _ _ _) ?_
  rw [if_pos r3, if_neg (show ¬ (1 : Int32) = 0 by decide)]
  refine mk_ok.let ?_
  rw [mn_3264 (show g < 2147483648 by omega)]
  have p1 : mk_s2m h1 (mm_pL h1 261 69 (Int64.ofNat g)) := mk_s2m.pL
  have g9 : (mm_pL h1 261 69 (Int64.ofNat g)).2.1 261 69 = Int64.ofNat g := by rw [mp_L2, if_pos ⟨rfl, rfl⟩]
  have hM9 := hM1.s2 p1
  generalize mm_pL h1 261 69 (Int64.ofNat g) = h9 at p1 g9 hM9 ⊢
  obtain ⟨m1, m2, m3, m4, m5, m6, m7⟩ := hM9
  refine mk_ok.bind (mi_copies (x := 0) (y := 123) mk_ptag.2.2.1 mk_ptag.2.2.2.1 (by decide) (by omega) (by omega) (by omega)) (fun v12 ⟨y1, y2⟩ => ?_)
  have k12 : mk_ch (fun c => c = 302) h9 v12 := ⟨fun c hc => ⟨funext fun j => by rw [y2, if_neg (fun z => hc z.1)], by rw [y1]⟩, by rw [y1]⟩
  have c12 : ∀ j, j < 123 → v12.1 302 (123 + j) = Int32.ofNat (r j) := fun j hj => by
    rw [y2, if_pos ⟨rfl, by omega, by omega⟩, show 0 + (123 + j - 123) = j by omega]
    exact m2 j hj
  have R12 := m2.ch k12 (by omega)
  have M12 := m1.ch k12 (fun c z => by omega)
  refine mk_ok.bs (mi_fines R12) ?_
  have DZ : ∀ c, mk_DZ c → c = 261 ∨ c = 301 ∨ (281 ≤ c ∧ c ≤ 292) := fun c z => z
  have mM : ∀ {v}, mk_ch mk_DZ v12 v → mk_MT A E v := fun k => M12.ch k (fun c z => by have := DZ c z; omega)
  have start : mk_YM v12 (mk_yr A E r g 0) v12 := ⟨mk_ch.rf, rfl, R12, by rw [k12.e2 (by omega)]; exact g9⟩
  refine mk_ok.bind (mk_ok.for (ρ := Int32 × mm_H) Y (fun i (s : Int32 × Int32 × mm_H) => s.2.1 = Int32.ofNat (1 + i) ∧ s.1 = Int32.ofNat (mk_yr A E r g i).1 ∧ mk_YM v12 (mk_yr A E r g i) s.2.2) (Q := fun v : Int32 × mm_H => v.1 = Int32.ofNat (mk_yr A E r g Y).1 ∧ mk_YM v12 (mk_yr A E r g Y) v.2) ⟨rfl, rfl, start⟩ (fun i s hi ⟨e1, e2, q⟩ => ?_) (fun s ⟨e1, e2, q⟩ => ?_)) (fun v18 ⟨b0, b1, b2, b3, b4⟩ => ?_)
  · obtain ⟨W', G'⟩ := mk_yr_W (E := E) hT hW (show g < 2147483648 by omega) i
    rw [e1, if_neg (fun z => absurd ((mn_lt (by omega) (by omega)).mp z) (show ¬ Y < 1 + i by omega)), mk_yr_eq]
    generalize mk_yr A E r g i = y at *
    obtain ⟨y0, y1, y2, y3⟩ := y
    obtain ⟨q1, q2, q3, q4⟩ := q
    dsimp only at *
    obtain ⟨WE, GE⟩ := mk_wh_W (g := y3) hT W' G' (A 263 2) (Nat.le_refl _)
    refine mk_ok.bind (mi_whispers hT W' (mM q1) q3 G' q4) (fun v22 ⟨d1, d2, d3, d4, d5⟩ => ?_)
    generalize mk_wh A y2 y3 (A 263 2) = w at *
    obtain ⟨w0, w1, w2⟩ := w
    dsimp only at *
    have q22 : mk_ch mk_DZ v12 v22.2 := q1.tr d2 (fun _ z => z) (fun c z => by unfold mk_DZ; omega)
    refine mk_ok.let ?_
    rw [e2, d1, mn_add]
    have er : Int32.ofNat (1 + i) - Int32.ofNat (1 + i) / 10 * 10 = Int32.ofNat ((1 + i) % 10) := mn_reml (b := 10) (by omega) (by decide)
    rw [er]
    refine mk_ok.bind (Q := fun v : mm_H => mk_YM v12 (if (1 + i) % 10 = 0 then (y0 + w0, y1 + mk_pc (mk_owes A (mk_qd A E w1 (A 263 0))), mk_pass A (mk_qd A E w1 (A 263 0)), w2) else (y0 + w0, y1, w1, w2)) v) ?_ (fun v q => ?_)
    · by_cases c : (1 + i) % 10 = 0
      · rw [if_pos ((mn_lel (b := 0) (show (1 + i) % 10 < 2147483648 by omega) (by decide)).mpr (show (1 + i) % 10 ≤ 0 by omega)), if_pos c]
        refine mk_ok.cons (mi_qDay (E := E) hT WE (mM q22) d4) (fun v ⟨g1, g2⟩ => ?_)
        have DK : ∀ c, mk_DK c → c = 301 ∨ (281 ≤ c ∧ c ≤ 292) := fun c z => by unfold mk_DK mk_DM at z; omega
        refine ⟨q22.tr g1 (fun _ z => z) (fun c z => by have := DK c z; unfold mk_DZ; omega), ?_, g2, ?_⟩
        · rw [g1.e1 (fun z => by have := DK _ z; omega), d3]; exact q2
        · rw [g1.e2 (fun z => by have := DK _ z; omega)]; exact d5
      · rw [if_neg (fun z => absurd ((mn_lel (b := 0) (show (1 + i) % 10 < 2147483648 by omega) (by decide)).mp z) (show ¬ (1 + i) % 10 ≤ 0 by omega)), if_neg c]
        exact mk_ok.ret ⟨q22, d3.trans q2, d4, d5⟩
    · refine mk_ok.let ?_
      rw [mn_addl 1]
      refine mk_ok.inl ⟨rfl, ?_, q⟩
      split <;> rfl
  · rw [e1, if_pos ((mn_lt (by omega) (by omega)).mpr (show Y < 1 + Y by omega))]
    exact mk_ok.inr ⟨e2, q⟩
  obtain ⟨W', G'⟩ := mk_yr_W (E := E) hT hW (show g < 2147483648 by omega) Y
  have FF := mk_yr_F (E := E) (r := r) (g := g) hT Y
  refine mk_ok.bind (Q := fun v => v.1 = (if x = 0 then Int32.ofNat (mk_yr A E r g Y).1 else if x = 1 then Int32.ofNat (mk_yr A E r g Y).2.1 else Int32.ofNat (mk_ws A E (mk_yr A E r g Y).2.2.1 (2 ^ A 263 1 - 1))) ∧ mk_ch mk_DZ v12 v.2 ∧ v.2.1 261 = v12.1 261) ?_ (fun j67 ⟨d1, d2, d3⟩ => ?_)
  · have hc : x = 0 ∨ x = 1 ∨ x = 2 := by omega
    rcases hc with rfl | rfl | rfl
    · rw [if_pos (show Int32.ofNat 0 = 0 by decide), if_pos rfl]
      exact mk_ok.ret ⟨b0, b1, b2⟩
    · rw [if_neg (show ¬ Int32.ofNat 1 = 0 by decide), if_pos (show Int32.ofNat 1 = 1 by decide), if_neg (by decide), if_pos rfl]
      refine mk_ok.bs (mi_fines b3) ?_
      refine mk_ok.ret ⟨?_, b1, b2⟩
      show Int32.ofNat (mk_F (mk_yr A E r g Y).2.2.1) - Int32.ofNat (mk_F r) = _
      rw [FF, mn_sub (by omega), Nat.add_sub_cancel_left]
    · rw [if_neg (show ¬ Int32.ofNat 2 = 0 by decide), if_neg (show ¬ Int32.ofNat 2 = 1 by decide), if_neg (by decide), if_neg (by decide)]
      refine mk_ok.bs (mi_allSecrets hT (mM b1)) ?_
      have la : 2 ^ A 263 1 - 1 < 2147483648 := Nat.lt_trans (mk_s2 hS1 mk_all_lt) (by decide)
      refine mk_ok.bind (mi_worthsOf hT W' (mM b1) b3 la) (fun v36 ⟨c1, c2⟩ => ?_)
      have c2' : mk_ch (fun c => 281 ≤ c ∧ c ≤ 292) v18.2 v36.2 := c2
      refine mk_ok.ret ⟨c1, b1.tr c2' (fun _ z => z) (fun c z => by unfold mk_DZ; omega), ?_⟩
      rw [c2'.e1 (by omega)]; exact b2
  refine mk_ok.bind (mi_copies (x := 123) (y := 0) mk_ptag.2.2.2.1 mk_ptag.2.2.1 (by decide) (by omega) (by omega) (by omega)) (fun v46 ⟨z1, z2⟩ => ?_)
  have kz : mk_ch mk_DZ j67.2 v46 := ⟨fun c hc => ⟨funext fun j => by rw [z2, if_neg (fun z => hc (by unfold mk_DZ; omega))], by rw [z1]⟩, by rw [z1]⟩
  have kk : mk_ch (fun c => c = 302 ∨ mk_DZ c) h9 v46 := (k12.tr d2 (fun c z => Or.inl z) (fun c z => Or.inr z) : mk_ch (fun c => c = 302 ∨ mk_DZ c) h9 j67.2).tr kz (fun _ z => z) (fun c z => Or.inr z)
  have DK : ∀ c, (c = 302 ∨ mk_DZ c) → c = 261 ∨ c = 301 ∨ c = 302 ∨ (281 ≤ c ∧ c ≤ 292) := fun c z => by unfold mk_DZ at z; omega
  have e261 : v46.1 261 = h9.1 261 := by
    funext j
    rw [z2, if_neg (by omega), d3, k12.e1 (by omega)]
  refine mk_ok.ret ⟨d1, ⟨m1.ch kk (fun c z => by have := DK c z; omega), fun j hj => ?_, m3.ch kk (by rw [e261]) (fun z => by have := DK _ z; omega), m4.ch kk (fun c z => by have := DK c z; omega), m5.ch kk (fun c z => by have := DK c z; omega), m6.ch kk (by rw [e261]) (fun z => by have := DK _ z; omega), m7.ch kk ⟨fun z => by have := DK _ z; omega, fun z => by have := DK _ z; omega⟩⟩, ((mk_fX.s2 p0).tr (mk_fX.s2 p1)).tr (mk_fX.of kk (fun c z => by have := DK c z; omega))⟩
  rw [z2, if_pos ⟨rfl, by omega, by omega⟩, show 123 + (j - 0) = 123 + j by omega, d2.e1 (c := 302) (fun z => by unfold mk_DZ at z; omega)]
  exact c12 j hj
theorem mc_years (x1 x2 x3 : Int32) : mk_call (f_X_years x1 x2 x3) (f_M_years x1 x2 x3) := by
  refine mk_callof (fun A E t r u hw => ?_)
  by_cases hr : (0 ≤ x1 ∧ x1 ≤ 9999) ∧ (1 ≤ x2 ∧ x2 ≤ 100) ∧ (0 ≤ x3 ∧ x3 ≤ 2)
  · obtain ⟨h1, h2, h3⟩ := hr
    obtain ⟨g, hg, rfl⟩ := mk_upto (n := 9999) (by omega) h1
    obtain ⟨Y, hY, rfl⟩ := mk_upto (n := 100) (by omega) ⟨Int32.le_trans (by decide) h2.1, h2.2⟩
    obtain ⟨x, hx, rfl⟩ := mk_upto (n := 2) (by omega) h3
    have hY1 : 1 ≤ Y := (mn_lle (b := 1) (show Y < 2147483648 by omega) (by decide)).mp h2.1
    refine ⟨_, r, u, t, hw, fun h hX => ?_, fun h hM => mi_years hw hM hg ⟨hY1, hY⟩ hx⟩
    unfold f_X_years
    rw [if_neg (Int32.not_lt.mpr h1.1), if_neg (Int32.not_lt.mpr h1.2), if_neg (Int32.not_lt.mpr h2.1), if_neg (Int32.not_lt.mpr h2.2), if_neg (Int32.not_lt.mpr h3.1), if_pos h3.2]
    refine mk_ok.bind (mx_live hw hX hg hY) (fun v2 ⟨a1, a2, a3, a4, a5⟩ => ?_)
    refine mk_ok.bs (mn_ix (show x < 4 by omega) (by omega)) ?_
    have ht := hX.2.1.1
    refine mk_ok.ret ⟨?_, hX.ch32 hw a1 a2 (fun c z => by unfold mk_DY at z; unfold mk_sx; omega), mk_fM.of a1 (fun c z => by unfold mk_DY at z; omega)⟩
    have hc : x = 0 ∨ x = 1 ∨ x = 2 := by omega
    rcases hc with rfl | rfl | rfl
    · rw [if_pos rfl]; exact a3
    · rw [if_neg (by decide), if_pos rfl]; exact a4
    · rw [if_neg (by decide), if_neg (by decide)]; exact a5
  · refine ⟨-1, r, u, t, hw, fun h hX => ?_, fun h hM => ?_⟩
    · unfold f_X_years
      have keep : mk_ok (some ((-1 : Int32), h)) (fun v : Int32 × mm_H => v.1 = -1 ∧ mk_X A E t r u v.2 ∧ mk_fM h v.2) := mk_ok.ret ⟨rfl, hX, mk_fM.rf⟩
      split
      · exact keep
      split
      · exact keep
      split
      · exact keep
      split
      · exact keep
      split
      · exact keep
      split
      · rename_i n1 n2 n3 n4 n5 n6
        exact absurd ⟨⟨Int32.not_lt.mp n1, Int32.not_lt.mp n2⟩, ⟨Int32.not_lt.mp n3, Int32.not_lt.mp n4⟩, Int32.not_lt.mp n5, n6⟩ hr
      · exact keep
    · unfold f_M_years
      refine mk_ok.let ?_
      have p0 : mk_s2m h (mm_pI h 261 0 0) := mk_s2m.pI ⟨by decide, by decide⟩
      have keep : mk_ok (some ((-1 : Int32), mm_pI h 261 0 0)) (fun v : Int32 × mm_H => v.1 = -1 ∧ mk_M A E r u v.2 ∧ mk_fX h v.2) := mk_ok.ret ⟨rfl, hM.s2 p0, mk_fX.s2 p0⟩
      generalize mm_pI h 261 0 0 = h1 at keep ⊢
      refine mk_ok.bs (mp_within _ _ _) ?_
      by_cases n1 : 0 ≤ x1 ∧ x1 ≤ 9999
      · rw [if_pos n1, if_neg (show ¬ (1 : Int32) = 0 by decide)]
        refine mk_ok.bs (mp_within _ _ _) ?_
        by_cases n2 : 1 ≤ x2 ∧ x2 ≤ 100
        · rw [if_pos n2, if_neg (show ¬ (1 : Int32) = 0 by decide)]
          refine mk_ok.bs (mp_within _ _ _) ?_
          rw [if_neg (fun z => hr ⟨n1, n2, z⟩), if_pos rfl]
          exact keep
        · rw [if_neg n2, if_pos rfl]
          exact keep
      · rw [if_neg n1, if_pos rfl]
        exact keep
