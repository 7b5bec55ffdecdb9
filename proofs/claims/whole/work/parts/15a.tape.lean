/-! THE TAPE: signs laid on it by feed; frames in which the token's word may change -/
def mk_cr (D : Nat → Prop) (h h' : mm_H) : Prop := (∀ c, ¬ D c → h'.1 c = h.1 c ∧ h'.2.1 c = h.2.1 c) ∧ ∀ c j, ¬ c = 33 → h'.2.2 c j = h.2.2 c j
theorem mk_cr.of {D : Nat → Prop} {h h' : mm_H} (k : mk_ch D h h') : mk_cr D h h' := ⟨k.1, fun _ _ _ => by rw [k.2]⟩
theorem mk_cr.rf {D : Nat → Prop} {h : mm_H} : mk_cr D h h := mk_cr.of mk_ch.rf
theorem mk_cr.tr {D D1 D2 : Nat → Prop} {h h1 h2 : mm_H} (a : mk_cr D1 h h1) (b : mk_cr D2 h1 h2) (h1' : ∀ c, D1 c → D c) (h2' : ∀ c, D2 c → D c) : mk_cr D h h2 :=
  ⟨fun c hc => ⟨((b.1 c (fun q => hc (h2' c q))).1).trans (a.1 c (fun q => hc (h1' c q))).1, ((b.1 c (fun q => hc (h2' c q))).2).trans (a.1 c (fun q => hc (h1' c q))).2⟩, fun c j hc => (b.2 c j hc).trans (a.2 c j hc)⟩
theorem mk_cr.mono {D D1 : Nat → Prop} {h h1 : mm_H} (a : mk_cr D1 h h1) (h1' : ∀ c, D1 c → D c) : mk_cr D h h1 := ⟨fun c hc => a.1 c (fun q => hc (h1' c q)), a.2⟩
theorem mk_cr.e1 {D : Nat → Prop} {h h' : mm_H} (a : mk_cr D h h') {c : Nat} (hc : ¬ D c) : h'.1 c = h.1 c := (a.1 c hc).1
theorem mk_cr.e2 {D : Nat → Prop} {h h' : mm_H} (a : mk_cr D h h') {c : Nat} (hc : ¬ D c) : h'.2.1 c = h.2.1 c := (a.1 c hc).2
theorem mk_cr.pR {D : Nat → Prop} {h : mm_H} {j : Nat} {v : Option Nat} : mk_cr D h (mm_pR h 33 j v) := ⟨fun _ _ => ⟨rfl, rfl⟩, fun c i hc => by rw [mp_R3, if_neg (fun z => hc z.1)]⟩
theorem mk_cr.ch {D : Nat → Prop} {h h' : mm_H} (k : mk_cr D h h') : mk_ch D h (h'.1, h'.2.1, h.2.2) := ⟨k.1, rfl⟩
def mk_PXs (s : Nat × (Nat → Nat)) (h : mm_H) : Prop := h.1 33 1 = Int32.ofNat s.1 ∧ ∀ k, k < s.1 → h.1 34 k = Int32.ofNat (s.2 k)
def mk_PMs (s : Nat × (Nat → Nat)) (h : mm_H) : Prop := h.1 261 1 = Int32.ofNat s.1 ∧ ∀ k, k < s.1 → h.1 262 k = Int32.ofNat (s.2 k)
def mk_sgs (s : Nat × (Nat → Nat)) : Prop := s.1 ≤ 1000 ∧ ∀ k, k < s.1 → mk_sign (s.2 k)
def mk_fd1 (y : Int32) (s : Nat × (Nat → Nat)) : Nat × (Nat → Nat) := if mp_sg y = true ∧ s.1 < 1000 then (s.1 + 1, fun k => if k = s.1 then y.toNatClampNeg else s.2 k) else s
theorem mp_sg_is {y : Int32} (h : mp_sg y = true) : Int32.ofNat y.toNatClampNeg = y ∧ mk_sign y.toNatClampNeg := by
  unfold mp_sg at h
  simp only [Bool.or_eq_true, Bool.and_eq_true, decide_eq_true_eq] at h
  have nn : 0 ≤ y := by
    rcases h with h | h
    · rw [h]; decide
    · exact Int32.le_trans (by decide) h.1
  obtain ⟨n, hn, rfl⟩ := mn_of nn
  rw [mp_ofNat_toNat (by omega)]
  refine ⟨rfl, ?_⟩
  rcases h with h | h
  · exact Or.inl ((mn_eql (b := 10) (show n < 4294967296 by omega) (by decide)).mp h)
  · exact Or.inr ⟨(mn_lle (b := 32) hn (by decide)).mp h.1, (mn_lel (b := 126) hn (by decide)).mp h.2⟩
theorem mk_fd1_sgs {y : Int32} {s : Nat × (Nat → Nat)} (h : mk_sgs s) : mk_sgs (mk_fd1 y s) := by
  unfold mk_fd1
  by_cases c : mp_sg y = true ∧ s.1 < 1000
  · rw [if_pos c]
    refine ⟨by dsimp only; omega, fun k hk => ?_⟩
    dsimp only at hk ⊢
    by_cases e : k = s.1
    · rw [if_pos e]; exact (mp_sg_is c.1).2
    · rw [if_neg e]; exact h.2 k (by omega)
  · rw [if_neg c]; exact h
theorem mx_addX {y : Int32} {s : Nat × (Nat → Nat)} {h : mm_H} (hs : mk_sgs s) (hp : mk_PXs s h) : mk_PXs (mk_fd1 y s) (mp_addX y h) ∧ mk_ch (fun c => c = 33 ∨ c = 34) h (mp_addX y h) := by
  have lt : h.1 33 1 < 1000 ↔ s.1 < 1000 := by rw [hp.1]; exact mn_ltl (b := 1000) (by have := hs.1; omega) (by decide)
  have tn : (h.1 33 1).toNatClampNeg = s.1 := by rw [hp.1]; exact mp_ofNat_toNat (by have := hs.1; omega)
  unfold mp_addX mk_fd1
  by_cases c : mp_sg y = true ∧ s.1 < 1000
  · rw [if_pos c, if_pos ⟨c.1, lt.mpr c.2⟩, tn, hp.1]
    refine ⟨⟨?_, fun k hk => ?_⟩, (mk_ch.pI (D := fun c => c = 33 ∨ c = 34) (Or.inr rfl)).tr (mk_ch.pI (D := fun c => c = 33 ∨ c = 34) (Or.inl rfl)) (fun _ z => z) (fun _ z => z)⟩
    · rw [mp_I1, if_pos ⟨rfl, rfl⟩]; exact mn_addl 1 _
    · dsimp only at hk ⊢
      rw [mp_I1, if_neg (by omega), mp_I1]
      by_cases e : k = s.1
      · rw [if_pos ⟨rfl, e⟩, if_pos e, (mp_sg_is c.1).1]
      · rw [if_neg (fun z => e z.2), if_neg e]; exact hp.2 k (by omega)
  · rw [if_neg c, if_neg (fun z => c ⟨z.1, lt.mp z.2⟩)]
    exact ⟨hp, mk_ch.rf⟩
def mk_fdN (f : Nat → Int32) : Nat → Nat × (Nat → Nat) → Nat × (Nat → Nat)
  | 0, s => s
  | i + 1, s => mk_fd1 (f i) (mk_fdN f i s)
theorem mk_fdN_sgs {f : Nat → Int32} {s : Nat × (Nat → Nat)} (h : mk_sgs s) : ∀ n, mk_sgs (mk_fdN f n s)
  | 0 => h
  | n + 1 => mk_fd1_sgs (mk_fdN_sgs h n)
def mk_fby (x1 x3 x5 : Int64) (i : Nat) : Int32 := mp_by (if i < 8 then x1 else if i < 16 then x3 else x5) (mp_sh (i % 8))
theorem mx_addN {f : Nat → Int32} {x : Int64} {m : Nat} {s : Nat × (Nat → Nat)} {h : mm_H} (hs : mk_sgs s) (hp : mk_PXs (mk_fdN f m s) h) (hf : ∀ i, i < 8 → f (m + i) = mp_by x (mp_sh i)) : f_Ta_add x h = some (mp_addN x h 8) ∧ mk_PXs (mk_fdN f (m + 8) s) (mp_addN x h 8) ∧ mk_ch (fun c => c = 33 ∨ c = 34) h (mp_addN x h 8) := by
  refine ⟨mp_add x h ⟨_, (mk_fdN_sgs hs m).1, hp.1⟩, ?_⟩
  have key : ∀ i, i ≤ 8 → mk_PXs (mk_fdN f (m + i) s) (mp_addN x h i) ∧ mk_ch (fun c => c = 33 ∨ c = 34) h (mp_addN x h i) := by
    intro i
    induction i with
    | zero => intro _; exact ⟨hp, mk_ch.rf⟩
    | succ i ih =>
      intro hi
      obtain ⟨a, b⟩ := ih (by omega)
      obtain ⟨c, d⟩ := mx_addX (y := mp_by x (mp_sh i)) (mk_fdN_sgs hs (m + i)) a
      refine ⟨?_, b.tr d (fun _ z => z) (fun _ z => z)⟩
      show mk_PXs (mk_fd1 (f (m + i)) (mk_fdN f (m + i) s)) (mp_addX (mp_by x (mp_sh i)) (mp_addN x h i))
      rw [hf i (by omega)]
      exact c
  exact key 8 (by omega)
def mk_us (u : mk_U) (s : Nat × (Nat → Nat)) : mk_U := fun a => if a = 90 then (fun j => if j = 0 then s.1 else u 90 j) else if a = 91 then s.2 else u a
theorem mk_us_o {u : mk_U} {s : Nat × (Nat → Nat)} {a : Nat} (h : ¬ a = 90 ∧ ¬ a = 91) : mk_us u s a = u a := by
  unfold mk_us; rw [if_neg h.1, if_neg h.2]
theorem mk_us_n {u : mk_U} {s : Nat × (Nat → Nat)} : mk_us u s 90 0 = s.1 := rfl
theorem mk_us_w {u : mk_U} {s : Nat × (Nat → Nat)} : mk_us u s 91 = s.2 := rfl
theorem mk_TW.us {A : mk_A} {u : mk_U} {s : Nat × (Nat → Nat)} {i : Nat} (hi : i ≤ 5) (q : mk_TW A u i) : mk_TW A (mk_us u s) i := by
  unfold mk_TW
  rw [mk_us_o (by omega), mk_us_o (by omega), mk_us_o (by omega), mk_us_o (by omega), mk_us_o (by omega), mk_us_o (by omega), mk_us_o (by omega)]
  exact q
theorem mk_TX.us {u : mk_U} {s : Nat × (Nat → Nat)} {c i : Nat} {h : mm_H} (hi : i ≤ 5) (q : mk_TX u c i h) : mk_TX (mk_us u s) c i h := by
  unfold mk_TX
  rw [mk_us_o (by omega), mk_us_o (by omega), mk_us_o (by omega), mk_us_o (by omega), mk_us_o (by omega), mk_us_o (by omega), mk_us_o (by omega)]
  exact q
theorem mk_TM.us {u : mk_U} {s : Nat × (Nat → Nat)} {i : Nat} {h : mm_H} (hi : i ≤ 5) (q : mk_TM u i h) : mk_TM (mk_us u s) i h := by
  unfold mk_TM
  rw [mk_us_o (by omega), mk_us_o (by omega), mk_us_o (by omega), mk_us_o (by omega), mk_us_o (by omega), mk_us_o (by omega), mk_us_o (by omega)]
  exact q
theorem mk_wf.us {A : mk_A} {r : Nat → Nat} {u : mk_U} {s : Nat × (Nat → Nat)} (hw : mk_wf A r u) (hs : mk_sgs s) : mk_wf A r (mk_us u s) := by
  have hP := hw.1.1.1
  have hS1 := hw.1.1.2.1
  obtain ⟨w1, w2, ⟨w3, w4, w5⟩, ⟨w6, w7⟩, w8, w9, w10, w11⟩ := hw
  have e0 : mk_us u s 0 = u 0 := mk_us_o (by omega)
  refine ⟨w1, w2, ⟨by rw [e0]; exact w3, by rw [e0]; exact w4, fun i hi => ?_⟩, ⟨by rw [e0]; exact w6, fun m hm hb => ?_⟩, w8.us (by omega), hs, fun p hp => ?_, fun k hk => ?_⟩
  · rw [e0] at hi
    rw [mk_us_o (by omega)]; exact w5 i hi
  · rw [e0] at hb
    rw [mk_us_o (by omega)]
    exact ⟨(w7 m hm hb).1, (w7 m hm hb).2.us (by omega)⟩
  · rw [mk_us_o (by omega)]; exact w10 p hp
  · rw [mk_us_o (by omega)]; exact w11 k hk
theorem mk_X.us {A : mk_A} {E : mk_E} {t : Nat} {r : Nat → Nat} {u : mk_U} {s : Nat × (Nat → Nat)} {h h' : mm_H} (hw : mk_wf A r u) (q : mk_X A E t r u h) (k : mk_cr (fun c => mk_sx t c ∨ c = 33 ∨ c = 34) h h') (hp : mk_PXs s h') : mk_X A E t r (mk_us u s) h' := by
  have hP := hw.1.1.1
  have hS1 := hw.1.1.2.1
  obtain ⟨q0, q1, q2, q3, q4, q5, q6, q7⟩ := q
  have ht := q1.1
  have hd : ∀ c, (mk_sx t c ∨ c = 33 ∨ c = 34) → (41 ≤ c ∧ c ≤ 46) ∨ (54 ≤ c ∧ c ≤ 60) ∨ (64 ≤ c ∧ c ≤ 78) ∨ c = t + 16 ∨ (175 - t ≤ c ∧ c ≤ 191 - t) ∨ c = 33 ∨ c = 34 := fun c z => by
    unfold mk_sx at z
    omega
  have e0 : mk_us u s 0 = u 0 := mk_us_o (by omega)
  have k1 := k.ch
  have r1 := q1.ch k1 (fun j z => by have := hd j z; omega)
  have r2 := q2.ch k1 (fun j z => by have := hd j z; omega)
  have r3 := q3.ch hw.2.2.1.1 k1 (fun z => by have := hd _ z; omega) (fun j z => by have := hd j z; omega)
  have r4 := q4.ch k1 (fun z => by have := hd _ z; omega) (fun j z => by have := hd j z; omega)
  have r5 := q5.ch k1 (fun j z => by have := hd j z; omega)
  have r7 := q7.ch k1 ⟨fun z => by have := hd _ z; omega, fun z => by have := hd _ z; omega⟩
  refine ⟨⟨by rw [k.2 32 14 (by omega)]; exact q0.1, by rw [k.2 32 15 (by omega)]; exact q0.2⟩, r1, r2, ⟨by rw [e0]; exact r3.1, by rw [e0]; exact r3.2.1, fun i hi => ?_⟩, ⟨by rw [e0]; exact r4.1, fun m hm hb => ?_⟩, r5.us (by omega), hp, fun p hp => ?_, fun k hk => ?_⟩
  · rw [e0] at hi ⊢
    rw [mk_us_o (by have := hw.2.2.1.1; omega)]
    exact r3.2.2 i hi
  · rw [e0] at hb
    rw [mk_us_o (by omega)]
    exact ⟨(r4.2 m hm hb).1, (r4.2 m hm hb).2.us (by omega)⟩
  · rw [mk_us_o (by omega)]; exact r7.1 p hp
  · rw [mk_us_o (by omega)]; exact r7.2 k hk
theorem mk_M.us {A : mk_A} {E : mk_E} {r : Nat → Nat} {u : mk_U} {s : Nat × (Nat → Nat)} {h h' : mm_H} (hw : mk_wf A r u) (q : mk_M A E r u h) (k : mk_ch (fun c => mk_sm c ∨ c = 261 ∨ c = 262) h h') (e : h'.1 261 55 = h.1 261 55) (hp : mk_PMs s h') : mk_M A E r (mk_us u s) h' := by
  have hP := hw.1.1.1
  have hS1 := hw.1.1.2.1
  obtain ⟨q1, q2, q3, q4, q5, q6, q7⟩ := q
  have hd : ∀ c, (mk_sm c ∨ c = 261 ∨ c = 262) → (281 ≤ c ∧ c ≤ 292) ∨ c = 302 ∨ 306 ≤ c ∨ c = 261 ∨ c = 262 := fun c z => by unfold mk_sm at z; omega
  have e0 : mk_us u s 0 = u 0 := mk_us_o (by omega)
  have r3 := q3.ch k e (fun z => by have := hd _ z; omega)
  have r4 := q4.ch k (fun j z => by have := hd j z; omega)
  have r7 := q7.ch k ⟨fun z => by have := hd _ z; omega, fun z => by have := hd _ z; omega⟩
  refine ⟨q1.ch k (fun j z => by have := hd j z; omega), q2.ch k (fun z => by have := hd _ z; omega), ⟨by rw [e0]; exact r3.1, fun i hi => ?_⟩, fun m hm => ?_, (q5.ch k (fun j z => by have := hd j z; omega)).us (by omega), hp, fun p hp => ?_, fun k hk => ?_⟩
  · rw [e0] at hi
    rw [mk_us_o (by have := hw.2.2.1.1; omega)]
    exact r3.2 i hi
  · rw [e0, mk_us_o (by omega)]
    exact ⟨(r4 m hm).1, fun z => ⟨((r4 m hm).2 z).1, ((r4 m hm).2 z).2.us (by omega)⟩⟩
  · rw [mk_us_o (by omega)]; exact r7.1 p hp
  · rw [mk_us_o (by omega)]; exact r7.2 k hk
theorem mi_addM {y : Int32} {s : Nat × (Nat → Nat)} {h : mm_H} (hs : mk_sgs s) (hp : mk_PMs s h) : mk_ok (if 1000 ≤ (h.1 261 1) then (some h) else (mm_jp (fun (j21 : Unit) => ((mm_ix (h.1 261 1) 1000).bind fun k24 => mm_let (mm_pI h 262 k24 y) fun h26 => mm_let (mm_pI h26 261 1 ((h26.1 261 1) + 1)) fun h28 => some h28)) fun k23 => if y = 10 then (k23 ()) else (if y < 32 then (some h) else (if 126 < y then (some h) else (k23 ())))) : Option mm_H) (fun v => mk_PMs (mk_fd1 y s) v ∧ mk_ch (fun c => c = 261 ∨ c = 262) h v ∧ v.1 261 55 = h.1 261 55) := by
  have s1 := hs.1
  rw [hp.1]
  by_cases c0 : 1000 ≤ s.1
  · rw [if_pos ((mn_lle (b := 1000) (show s.1 < 2147483648 by omega) (by decide)).mpr c0)]
    unfold mk_fd1
    rw [if_neg (fun z => by omega)]
    exact mk_ok.ret ⟨hp, mk_ch.rf, rfl⟩
  · rw [if_neg (fun z => c0 ((mn_lle (b := 1000) (show s.1 < 2147483648 by omega) (by decide)).mp z))]
    simp only [mm_jp, mm_let]
    have yes : mp_sg y = true → mk_ok ((mm_ix (Int32.ofNat s.1) 1000).bind fun k24 => some (mm_pI (mm_pI h 262 k24 y) 261 1 ((mm_pI h 262 k24 y).1 261 1 + 1))) (fun v => mk_PMs (mk_fd1 y s) v ∧ mk_ch (fun c => c = 261 ∨ c = 262) h v ∧ v.1 261 55 = h.1 261 55) := by
      intro sg
      refine mk_ok.bs (mn_ix (show s.1 < 1000 by omega) (by omega)) ?_
      unfold mk_fd1
      rw [if_pos ⟨sg, by omega⟩]
      refine mk_ok.ret ⟨⟨?_, fun k hk => ?_⟩, (mk_ch.pI (D := fun c => c = 261 ∨ c = 262) (Or.inr rfl)).tr (mk_ch.pI (D := fun c => c = 261 ∨ c = 262) (Or.inl rfl)) (fun _ z => z) (fun _ z => z), ?_⟩
      · rw [mp_I1, if_pos ⟨rfl, rfl⟩, mp_I1, if_neg (by omega), hp.1]; exact mn_addl 1 _
      · dsimp only at hk ⊢
        rw [mp_I1, if_neg (by omega), mp_I1]
        by_cases e : k = s.1
        · rw [if_pos ⟨rfl, e⟩, if_pos e, (mp_sg_is sg).1]
        · rw [if_neg (fun z => e z.2), if_neg e]; exact hp.2 k (by omega)
      · rw [mp_I1, if_neg (by omega), mp_I1, if_neg (by omega)]
    have no : ¬ mp_sg y = true → mk_ok (some h) (fun v => mk_PMs (mk_fd1 y s) v ∧ mk_ch (fun c => c = 261 ∨ c = 262) h v ∧ v.1 261 55 = h.1 261 55) := by
      intro sg
      unfold mk_fd1
      rw [if_neg (fun z => sg z.1)]
      exact mk_ok.ret ⟨hp, mk_ch.rf, rfl⟩
    have sgi : mp_sg y = true ↔ y = 10 ∨ 32 ≤ y ∧ y ≤ 126 := by
      unfold mp_sg
      simp only [Bool.or_eq_true, Bool.and_eq_true, decide_eq_true_eq]
    by_cases c1 : y = 10
    · rw [if_pos c1]; exact yes (sgi.mpr (Or.inl c1))
    · rw [if_neg c1]
      by_cases c2 : y < 32
      · rw [if_pos c2]
        refine no (fun z => ?_)
        rcases sgi.mp z with z | z
        · exact c1 z
        · exact absurd c2 (Int32.not_lt.mpr z.1)
      · rw [if_neg c2]
        by_cases c3 : 126 < y
        · rw [if_pos c3]
          refine no (fun z => ?_)
          rcases sgi.mp z with z | z
          · exact c1 z
          · exact absurd c3 (Int32.not_lt.mpr z.2)
        · rw [if_neg c3]
          exact yes (sgi.mpr (Or.inr ⟨Int32.not_lt.mp c2, Int32.not_lt.mp c3⟩))
theorem mc_feed (x1 x3 x5 : Int64) : mk_call (f_X_feed x1 x3 x5) (f_M_feed x1 x3 x5) := by
  refine mk_callof (fun A E t r u hw => ?_)
  have hs : mk_sgs (u 90 0, u 91) := hw.2.2.2.2.2.1
  have sN := mk_fdN_sgs (f := mk_fby x1 x3 x5) hs 24
  refine ⟨Int32.ofNat (mk_fdN (mk_fby x1 x3 x5) 24 (u 90 0, u 91)).1, r, mk_us u (mk_fdN (mk_fby x1 x3 x5) 24 (u 90 0, u 91)), t, hw.us sN, fun h hX => ?_, fun h hM => ?_⟩
  · unfold f_X_feed
    have P0 : mk_PXs (mk_fdN (mk_fby x1 x3 x5) 0 (u 90 0, u 91)) h := hX.2.2.2.2.2.2.1
    obtain ⟨e1, P1, k1⟩ := mx_addN (x := x1) hs P0 (fun i hi => by
      show mp_by (if 0 + i < 8 then x1 else if 0 + i < 16 then x3 else x5) (mp_sh ((0 + i) % 8)) = _
      rw [if_pos (by omega), show (0 + i) % 8 = i by omega])
    refine mk_ok.bs e1 ?_
    obtain ⟨e2, P2, k2⟩ := mx_addN (x := x3) hs P1 (fun i hi => by
      show mp_by (if 0 + 8 + i < 8 then x1 else if 0 + 8 + i < 16 then x3 else x5) (mp_sh ((0 + 8 + i) % 8)) = _
      rw [if_neg (by omega), if_pos (by omega), show (0 + 8 + i) % 8 = i by omega])
    refine mk_ok.bs e2 ?_
    obtain ⟨e3, P3, k3⟩ := mx_addN (x := x5) hs P2 (fun i hi => by
      show mp_by (if 0 + 8 + 8 + i < 8 then x1 else if 0 + 8 + 8 + i < 16 then x3 else x5) (mp_sh ((0 + 8 + 8 + i) % 8)) = _
      rw [if_neg (by omega), if_neg (by omega), show (0 + 8 + 8 + i) % 8 = i by omega])
    refine mk_ok.bs e3 ?_
    have kk := (k1.tr k2 (fun _ z => z) (fun _ z => z)).tr k3 (fun _ z => z) (fun _ z => z)
    exact mk_ok.ret ⟨P3.1, hX.us hw (mk_cr.of (kk.mono (fun c z => Or.inr z))) P3, mk_fM.of kk (fun c z => by omega)⟩
  · unfold f_M_feed
    refine mk_ok.let ?_
    have p0 : mk_s2m h (mm_pI h 261 0 0) := mk_s2m.pI ⟨by decide, by decide⟩
    have hM1 := hM.s2 p0
    revert p0 hM1
    generalize mm_pI h 261 0 0 = h1
    intro p0 hM1
    have P0 : mk_PMs (u 90 0, u 91) h1 := hM1.2.2.2.2.2.1
    refine mk_ok.bind (mk_ok.for (ρ := mm_H) 24 (fun i (s : Int32 × mm_H) => s.1 = Int32.ofNat i ∧ mk_PMs (mk_fdN (mk_fby x1 x3 x5) i (u 90 0, u 91)) s.2 ∧ mk_ch (fun c => c = 261 ∨ c = 262) h1 s.2 ∧ s.2.1 261 55 = h1.1 261 55) (Q := fun v => mk_PMs (mk_fdN (mk_fby x1 x3 x5) 24 (u 90 0, u 91)) v ∧ mk_ch (fun c => c = 261 ∨ c = 262) h1 v ∧ v.1 261 55 = h1.1 261 55) ⟨rfl, P0, mk_ch.rf, rfl⟩ (fun i s hi ⟨e1, q1, q2, q3⟩ => ?_) (fun s ⟨e1, q1, q2, q3⟩ => ?_)) (fun v ⟨q1, q2, q3⟩ => ?_)
    · rw [e1, if_neg (fun z => absurd ((mn_lle (b := 24) (show i < 2147483648 by omega) (by decide)).mp z) (show ¬ 24 ≤ i by omega))]
      refine mk_ok.bs (v := if i < 8 then x1 else if i < 16 then x3 else x5) ?_ ?_
      · by_cases c1 : 8 ≤ i
        · rw [if_pos ((mn_lle (b := 8) (show i < 2147483648 by omega) (by decide)).mpr c1), if_neg (show ¬ i < 8 by omega)]
          by_cases c2 : 16 ≤ i
          · rw [if_pos ((mn_lle (b := 16) (show i < 2147483648 by omega) (by decide)).mpr c2), if_neg (show ¬ i < 16 by omega)]
          · rw [if_neg (fun z => c2 ((mn_lle (b := 16) (show i < 2147483648 by omega) (by decide)).mp z)), if_pos (show i < 16 by omega)]
        · rw [if_neg (fun z => c1 ((mn_lle (b := 8) (show i < 2147483648 by omega) (by decide)).mp z)), if_pos (show i < 8 by omega)]
      · have sh : Int32.toInt64 (56 - (8 * (Int32.ofNat i &&& 7))) = Int32.toInt64 (mp_sh (i % 8)) := (by decide +kernel : ∀ i : Nat, i < 24 → Int32.toInt64 (56 - (8 * (Int32.ofNat i &&& 7))) = Int32.toInt64 (mp_sh (i % 8))) i hi
        have by1 : Int64.toInt32 (((Int64.toUInt64 (if i < 8 then x1 else if i < 16 then x3 else x5) >>> ((Int32.toInt64 (56 - (8 * (Int32.ofNat i &&& 7)))).toUInt64 &&& Int64.toUInt64 63)).toInt64) &&& 255) = mk_fby x1 x3 x5 i := by
          rw [sh, ← mp_byte]; rfl
        rw [by1]
        refine mk_ok.let ?_
        refine mk_ok.bind (mi_addM (y := mk_fby x1 x3 x5 i) (mk_fdN_sgs hs i) q1) (fun v ⟨b1, b2, b3⟩ => ?_)
        rw [mn_addl 1]
        exact mk_ok.let (mk_ok.inl ⟨rfl, b1, q2.tr b2 (fun _ z => z) (fun _ z => z), b3.trans q3⟩)
    · rw [e1, if_pos (show (24 : Int32) ≤ Int32.ofNat 24 from Int32.le_refl _)]
      exact mk_ok.inr ⟨q1, q2, q3⟩
    · exact mk_ok.ret ⟨q1.1, hM1.us hw (q2.mono (fun c z => Or.inr z)) q3 q1, (mk_fX.s2 p0).tr (mk_fX.of q2 (fun c z => by omega))⟩
