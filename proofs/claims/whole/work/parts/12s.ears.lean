/-! a year's ears and a quarter's payments, both sides -/
def mk_cc (A : mk_A) (e : Nat) : Nat := min 10 (A 277 e + (if A 266 (A 275 e) = 1 then 1 else 0))
def mk_ue (A : mk_A) (r : Nat → Nat) (g e : Nat) : Nat × (Nat → Nat) × Nat := if mk_cc A e ≤ mk_dr g 10 then (0, r, mk_nxt g) else if A 263 1 = 0 then (0, r, mk_nxt g) else if mk_ct A r (A 275 e) (A 276 e) (mk_dr (mk_nxt g) (A 263 1)) = true then (1, mk_tell A r (A 275 e) (A 276 e) (mk_dr (mk_nxt g) (A 263 1)), mk_nxt (mk_nxt g)) else (0, r, mk_nxt (mk_nxt g))
theorem mk_ue_W {A : mk_A} {r : Nat → Nat} {g e : Nat} (hT : mk_T A) (hW : mk_W A r) (he : e < A 263 2) : mk_W A (mk_ue A r g e).2.1 ∧ (mk_ue A r g e).2.2 < 2147483648 := by
  obtain ⟨e1, e2, e3, e4⟩ := hT.2.2.2.1 e he
  unfold mk_ue
  by_cases c1 : mk_cc A e ≤ mk_dr g 10
  · rw [if_pos c1]; exact ⟨hW, mk_nxt_lt _⟩
  rw [if_neg c1]
  by_cases c2 : A 263 1 = 0
  · rw [if_pos c2]; exact ⟨hW, mk_nxt_lt _⟩
  rw [if_neg c2]
  by_cases c3 : mk_ct A r (A 275 e) (A 276 e) (mk_dr (mk_nxt g) (A 263 1)) = true
  · rw [if_pos c3]; exact ⟨mk_tell_W hT hW e1 e2 (Nat.mod_lt _ (by omega)), mk_nxt_lt _⟩
  · rw [if_neg c3]; exact ⟨hW, mk_nxt_lt _⟩
theorem mx_useEar {A : mk_A} {E : mk_E} {t : Nat} {r : Nat → Nat} {g e : Nat} {h : mm_H} (hT : mk_T A) (hW : mk_W A r) (hh : h.2.2 32 14 = some t) (hX : mk_XT A E t h) (hS : mk_XS A 41 r h) (hA : mk_XA A 41 r h) (he : e < A 263 2) (hg : g < 2147483648) (eg : h.2.1 32 19 = Int64.ofNat g) :
    mk_ok (f_X_useEar (Int32.ofNat (A 275 e)) (Int32.ofNat (A 276 e)) h) (fun v => v.1 = Int32.ofNat (mk_ue A r g e).1 ∧ mk_ch (fun c => c = 32 ∨ (41 ≤ c ∧ c ≤ 46)) h v.2 ∧ v.2.1 32 = h.1 32 ∧ mk_XS A 41 (mk_ue A r g e).2.1 v.2 ∧ mk_XA A 41 (mk_ue A r g e).2.1 v.2 ∧ v.2.2.1 32 19 = Int64.ofNat (mk_ue A r g e).2.2) := by
  obtain ⟨e1, e2, e3, e4⟩ := hT.2.2.2.1 e he
  have hP := hT.1.1
  have hS1 := hT.1.2.1
  have ht := hX.1
  unfold f_X_useEar mk_ue
  refine mk_ok.bs (mx_draw hg (n := 10) (by omega) eg) ?_
  have k1 : mk_ch (fun c => c = 32) h (mm_pL h 32 19 (Int64.ofNat (mk_nxt g))) := mk_ch.pL rfl
  have i1 : (mm_pL h 32 19 (Int64.ofNat (mk_nxt g))).1 32 = h.1 32 := rfl
  have g1 : (mm_pL h 32 19 (Int64.ofNat (mk_nxt g))).2.1 32 19 = Int64.ofNat (mk_nxt g) := by rw [mp_L2, if_pos ⟨rfl, rfl⟩]
  generalize mm_pL h 32 19 (Int64.ofNat (mk_nxt g)) = h1 at k1 i1 g1 ⊢
  dsimp only
  have hh1 : h1.2.2 32 14 = some t := by rw [k1.2]; exact hh
  have X1 := hX.ch k1 (fun c z => by omega)
  have S1 := hS.ch k1 (fun c z => by omega)
  have A1 : mk_XA A 41 r h1 := hA.ch k1 (by omega)
  have ec : mk_chc A (A 275 e) (A 276 e) = mk_cc A e + 1 := by
    unfold mk_chc mk_cc
    rw [mk_ear_at hT rfl rfl _ he (Nat.le_refl _), if_neg (by omega), Nat.add_sub_cancel]
  have hc10 : mk_cc A e ≤ 10 := Nat.min_le_left _ _
  have hd : mk_dr g 10 < 10 := Nat.mod_lt _ (by omega)
  refine mk_ok.bs (mx_gT hh1 ht) ?_
  refine mk_ok.bs (mx_chance hT X1 e1 e2) ?_
  rw [ec, mn_on1 (by omega), Nat.add_sub_cancel]
  by_cases c1 : mk_cc A e ≤ mk_dr g 10
  · rw [if_pos ((mn_le (by omega) (by omega)).mpr c1), if_pos c1]
    exact mk_ok.ret ⟨rfl, k1.mono (fun c z => Or.inl z), i1, S1, A1, g1⟩
  rw [if_neg (fun z => c1 ((mn_le (by omega) (by omega)).mp z)), if_neg c1]
  refine mk_ok.bs (mx_gT hh1 ht) ?_
  have e6 : h1.1 t 6 = Int32.ofNat (A 263 1) := X1.2.1.2.1
  have Z6 : (Int32.ofNat (A 263 1) = 0) ↔ A 263 1 = 0 := mn_eql (b := 0) (show A 263 1 < 4294967296 by omega) (by decide)
  rw [e6]
  by_cases c2 : A 263 1 = 0
  · rw [if_pos (Z6.mpr c2), if_pos c2]
    exact mk_ok.ret ⟨rfl, k1.mono (fun c z => Or.inl z), i1, S1, A1, g1⟩
  rw [if_neg (fun z => c2 (Z6.mp z)), if_neg c2]
  refine mk_ok.bs (mx_gT hh1 ht) ?_
  rw [e6]
  refine mk_ok.bs (mx_draw (mk_nxt_lt g) (n := A 263 1) (by omega) g1) ?_
  have k2 : mk_ch (fun c => c = 32) h1 (mm_pL h1 32 19 (Int64.ofNat (mk_nxt (mk_nxt g)))) := mk_ch.pL rfl
  have i2 : (mm_pL h1 32 19 (Int64.ofNat (mk_nxt (mk_nxt g)))).1 32 = h1.1 32 := rfl
  have g2 : (mm_pL h1 32 19 (Int64.ofNat (mk_nxt (mk_nxt g)))).2.1 32 19 = Int64.ofNat (mk_nxt (mk_nxt g)) := by rw [mp_L2, if_pos ⟨rfl, rfl⟩]
  generalize mm_pL h1 32 19 (Int64.ofNat (mk_nxt (mk_nxt g))) = h2 at k2 i2 g2 ⊢
  dsimp only
  have hh2 : h2.2.2 32 14 = some t := by rw [k2.2]; exact hh1
  have X2 := X1.ch k2 (fun c z => by omega)
  have S2 := S1.ch k2 (fun c z => by omega)
  have A2 : mk_XA A 41 r h2 := A1.ch k2 (by omega)
  have k12 := k1.tr k2 (fun _ z => z) (fun _ z => (z : _ = 32))
  have hk : mk_dr (mk_nxt g) (A 263 1) < A 263 1 := Nat.mod_lt _ (by omega)
  generalize mk_dr (mk_nxt g) (A 263 1) = k at hk ⊢
  have h2' : mk_two A (Int32.ofNat (A 275 e)) (Int32.ofNat (A 276 e)) := ⟨⟨_, e1, rfl⟩, ⟨_, e2, rfl⟩, fun z => e3 ((mn_eq (by omega) (by omega)).mp z)⟩
  refine mk_ok.bs (mx_gT hh2 ht) ?_
  refine mk_ok.bs (mx_mayTell1 hT X2 hW S2 h2' e1 e2 hk) ?_
  cases c : mk_ct A r (A 275 e) (A 276 e) k
  · rw [if_pos (by decide), if_neg (by decide)]
    exact mk_ok.ret ⟨rfl, k12.mono (fun c z => Or.inl z), i2.trans i1, S2, A2, g2⟩
  · rw [if_neg (by decide), if_pos rfl]
    refine mk_ok.bs (mx_gT hh2 ht) ?_
    refine mk_ok.bind (mx_whisper hT hW X2 (Or.inr rfl) S2 A2 e1 e2 e3 hk) (fun v20 ⟨b1, b2, b3⟩ => ?_)
    refine mk_ok.ret ⟨rfl, k12.tr b1 (fun c z => Or.inl z) (fun c z => Or.inr (by omega)), ?_, b2, b3, ?_⟩
    · rw [b1.e1 (by omega)]; exact i2.trans i1
    · rw [b1.e2 (by omega)]; exact g2
def mk_wh (A : mk_A) (r : Nat → Nat) (g : Nat) : Nat → Nat × (Nat → Nat) × Nat
  | 0 => (0, r, g)
  | n + 1 => ((mk_wh A r g n).1 + (mk_ue A (mk_wh A r g n).2.1 (mk_wh A r g n).2.2 n).1, (mk_ue A (mk_wh A r g n).2.1 (mk_wh A r g n).2.2 n).2)
theorem mk_wh_W {A : mk_A} {r : Nat → Nat} {g : Nat} (hT : mk_T A) (hW : mk_W A r) (hg : g < 2147483648) : ∀ n, n ≤ A 263 2 → mk_W A (mk_wh A r g n).2.1 ∧ (mk_wh A r g n).2.2 < 2147483648
  | 0, _ => ⟨hW, hg⟩
  | n + 1, h => mk_ue_W hT (mk_wh_W hT hW hg n (by omega)).1 (by omega)
/-- the reference's 261 but for its longs -/
theorem mi_whispers {A : mk_A} {E : mk_E} {r : Nat → Nat} {g : Nat} {h : mm_H} (hT : mk_T A) (hW : mk_W A r) (hM : mk_MT A E h) (hR : mk_MR r h) (hg : g < 2147483648) (eg : h.2.1 261 69 = Int64.ofNat g) :
    mk_ok (f_M_whispers h) (fun v => v.1 = Int32.ofNat (mk_wh A r g (A 263 2)).1 ∧ mk_ch (fun c => c = 261 ∨ c = 301) h v.2 ∧ v.2.1 261 = h.1 261 ∧ mk_MR (mk_wh A r g (A 263 2)).2.1 v.2 ∧ v.2.2.1 261 69 = Int64.ofNat (mk_wh A r g (A 263 2)).2.2) := by
  have hP := hT.1.1
  have hS1 := hT.1.2.1
  have hE := hT.1.2.2.1
  unfold f_M_whispers
  refine mk_ok.bind (mk_ok.for (ρ := Int32 × mm_H) (A 263 2) (fun i (s : Int32 × Int32 × mm_H) => s.2.1 = Int32.ofNat i ∧ s.1 = Int32.ofNat (mk_wh A r g i).1 ∧ mk_ch (fun c => c = 261 ∨ c = 301) h s.2.2 ∧ s.2.2.1 261 = h.1 261 ∧ mk_MR (mk_wh A r g i).2.1 s.2.2 ∧ s.2.2.2.1 261 69 = Int64.ofNat (mk_wh A r g i).2.2) (Q := fun v : Int32 × mm_H => v.1 = Int32.ofNat (mk_wh A r g (A 263 2)).1 ∧ mk_ch (fun c => c = 261 ∨ c = 301) h v.2 ∧ v.2.1 261 = h.1 261 ∧ mk_MR (mk_wh A r g (A 263 2)).2.1 v.2 ∧ v.2.2.1 261 69 = Int64.ofNat (mk_wh A r g (A 263 2)).2.2) ⟨rfl, rfl, mk_ch.rf, rfl, hR, eg⟩ (fun i s hi ⟨f1, f2, f3, f4, f5, f6⟩ => ?_) (fun s ⟨f1, f2, f3, f4, f5, f6⟩ => ?_)) (fun v q => mk_ok.ret q)
  · obtain ⟨e1, e2, e3, e4⟩ := hT.2.2.2.1 i hi
    obtain ⟨W', G'⟩ := mk_wh_W (g := g) hT hW hg i (by omega)
    have M' := hM.ch f3 (fun c z => by omega)
    have es : mk_wh A r g (i + 1) = ((mk_wh A r g i).1 + (mk_ue A (mk_wh A r g i).2.1 (mk_wh A r g i).2.2 i).1, (mk_ue A (mk_wh A r g i).2.1 (mk_wh A r g i).2.2 i).2) := rfl
    rw [M'.1 2 (by omega), f1, if_neg (fun z => absurd ((mn_le (by omega) (by omega)).mp z) (show ¬ A 263 2 ≤ i by omega)), es]
    generalize mk_wh A r g i = w at *
    obtain ⟨w0, r1, g1⟩ := w
    dsimp only at *
    have hd : mk_dr g1 10 < 10 := Nat.mod_lt _ (by omega)
    have hc10 : mk_cc A i ≤ 10 := Nat.min_le_left _ _
    refine mk_ok.bs (mi_draws G' (n := 10) (by omega) f6) ?_
    have k1 : mk_ch (fun c => c = 261) s.2.2 (mm_pL s.2.2 261 69 (Int64.ofNat (mk_nxt g1))) := mk_ch.pL rfl
    have i1 : (mm_pL s.2.2 261 69 (Int64.ofNat (mk_nxt g1))).1 261 = s.2.2.1 261 := rfl
    have q1 : (mm_pL s.2.2 261 69 (Int64.ofNat (mk_nxt g1))).2.1 261 69 = Int64.ofNat (mk_nxt g1) := by rw [mp_L2, if_pos ⟨rfl, rfl⟩]
    generalize mm_pL s.2.2 261 69 (Int64.ofNat (mk_nxt g1)) = h1 at k1 i1 q1 ⊢
    dsimp only
    have M1 := M'.ch k1 (fun c z => by omega)
    have R1 : mk_MR r1 h1 := f5.ch k1 (by omega)
    have kk1 : mk_ch (fun c => c = 261 ∨ c = 301) h h1 := f3.tr k1 (fun _ z => z) (fun c z => Or.inl z)
    refine mk_ok.bs (mi_chanceOf hT M1 hi) ?_
    show mk_ok (Option.bind (if Int32.ofNat (mk_cc A i) ≤ Int32.ofNat (mk_dr g1 10) then _ else _) _) _
    have e6 : h1.1 263 1 = Int32.ofNat (A 263 1) := M1.1 1 (by omega)
    have Z6 : (Int32.ofNat (A 263 1) = 0) ↔ A 263 1 = 0 := mn_eql (b := 0) (show A 263 1 < 4294967296 by omega) (by decide)
    rw [e6]
    refine mk_ok.bind (Q := fun v : Int32 × mm_H => v.1 = Int32.ofNat (w0 + (mk_ue A r1 g1 i).1) ∧ mk_ch (fun c => c = 261 ∨ c = 301) h v.2 ∧ v.2.1 261 = h.1 261 ∧ mk_MR (mk_ue A r1 g1 i).2.1 v.2 ∧ v.2.2.1 261 69 = Int64.ofNat (mk_ue A r1 g1 i).2.2) ?_ (fun v ⟨b1, b2, b3, b4, b5⟩ => ?_)
    · unfold mk_ue
      by_cases c1 : mk_cc A i ≤ mk_dr g1 10
      · rw [if_pos ((mn_le (by omega) (by omega)).mpr c1), if_pos c1]
        exact mk_ok.ret ⟨f2, kk1, i1.trans f4, R1, q1⟩
      rw [if_neg (fun z => c1 ((mn_le (by omega) (by omega)).mp z)), if_neg c1]
      by_cases c2 : A 263 1 = 0
      · rw [if_pos (Z6.mpr c2), if_pos c2]
        exact mk_ok.ret ⟨f2, kk1, i1.trans f4, R1, q1⟩
      rw [if_neg (fun z => c2 (Z6.mp z)), if_neg c2]
      refine mk_ok.bs (mi_draws (mk_nxt_lt g1) (n := A 263 1) (by omega) q1) ?_
      have k2 : mk_ch (fun c => c = 261) h1 (mm_pL h1 261 69 (Int64.ofNat (mk_nxt (mk_nxt g1)))) := mk_ch.pL rfl
      have i2 : (mm_pL h1 261 69 (Int64.ofNat (mk_nxt (mk_nxt g1)))).1 261 = h1.1 261 := rfl
      have q2 : (mm_pL h1 261 69 (Int64.ofNat (mk_nxt (mk_nxt g1)))).2.1 261 69 = Int64.ofNat (mk_nxt (mk_nxt g1)) := by rw [mp_L2, if_pos ⟨rfl, rfl⟩]
      generalize mm_pL h1 261 69 (Int64.ofNat (mk_nxt (mk_nxt g1))) = h2 at k2 i2 q2 ⊢
      dsimp only
      have M2 := M1.ch k2 (fun c z => by omega)
      have R2 : mk_MR r1 h2 := R1.ch k2 (by omega)
      have kk2 : mk_ch (fun c => c = 261 ∨ c = 301) h h2 := kk1.tr k2 (fun _ z => z) (fun c z => Or.inl z)
      have hk : mk_dr (mk_nxt g1) (A 263 1) < A 263 1 := Nat.mod_lt _ (by omega)
      generalize mk_dr (mk_nxt g1) (A 263 1) = k at hk ⊢
      have ix : mm_ix (Int32.ofNat i) 60 = some i := mn_ix (by omega) (by omega)
      refine mk_ok.bs ix ?_
      refine mk_ok.bs ix ?_
      rw [(M2.2.2.2.1 i (by omega)).1, (M2.2.2.2.1 i (by omega)).2.1]
      refine mk_ok.bs (mi_canTell hT M2 W' R2 e1 e2 hk) ?_
      cases c : mk_ct A r1 (A 275 i) (A 276 i) k
      · rw [if_pos (by decide), if_neg (by decide)]
        exact mk_ok.ret ⟨f2, kk2, (i2.trans i1).trans f4, R2, q2⟩
      · rw [if_neg (by decide), if_pos rfl]
        refine mk_ok.bs ix ?_
        refine mk_ok.bs ix ?_
        rw [(M2.2.2.2.1 i (by omega)).1, (M2.2.2.2.1 i (by omega)).2.1]
        refine mk_ok.bind (mi_tells hT M2 R2 e1 e2 e3 hk) (fun v26 ⟨d1, d2⟩ => ?_)
        refine mk_ok.let ?_
        rw [f2, mn_addl 1]
        refine mk_ok.ret ⟨rfl, kk2.tr d1 (fun _ z => z) (fun c z => Or.inr z), ?_, d2, ?_⟩
        · rw [d1.e1 (by omega)]; exact (i2.trans i1).trans f4
        · rw [d1.e2 (by omega)]; exact q2
    · refine mk_ok.let ?_
      rw [mn_addl 1]
      exact mk_ok.inl ⟨rfl, b1, b2, b3, b4, b5⟩
  · rw [(hM.ch f3 (fun c z => by omega)).1 2 (by omega), f1, if_pos (Int32.le_refl _)]
    exact mk_ok.inr ⟨f2, f3, f4, f5, f6⟩
