/-! mark, both sides -/
theorem mk_f7 {u u' : mk_U} {i i' : Nat} (e : ∀ f, f ≤ 6 → u' (30 + 10 * i' + f) = u (30 + 10 * i + f)) : u' (30 + 10 * i') = u (30 + 10 * i) ∧ u' (31 + 10 * i') = u (31 + 10 * i) ∧ u' (32 + 10 * i') = u (32 + 10 * i) ∧ u' (33 + 10 * i') = u (33 + 10 * i) ∧ u' (34 + 10 * i') = u (34 + 10 * i) ∧ u' (35 + 10 * i') = u (35 + 10 * i) ∧ u' (36 + 10 * i') = u (36 + 10 * i) := by
  refine ⟨e 0 (by omega), ?_, ?_, ?_, ?_, ?_, ?_⟩
  · have := e 1 (by omega); rwa [show 30 + 10 * i' + 1 = 31 + 10 * i' by omega, show 30 + 10 * i + 1 = 31 + 10 * i by omega] at this
  · have := e 2 (by omega); rwa [show 30 + 10 * i' + 2 = 32 + 10 * i' by omega, show 30 + 10 * i + 2 = 32 + 10 * i by omega] at this
  · have := e 3 (by omega); rwa [show 30 + 10 * i' + 3 = 33 + 10 * i' by omega, show 30 + 10 * i + 3 = 33 + 10 * i by omega] at this
  · have := e 4 (by omega); rwa [show 30 + 10 * i' + 4 = 34 + 10 * i' by omega, show 30 + 10 * i + 4 = 34 + 10 * i by omega] at this
  · have := e 5 (by omega); rwa [show 30 + 10 * i' + 5 = 35 + 10 * i' by omega, show 30 + 10 * i + 5 = 35 + 10 * i by omega] at this
  · have := e 6 (by omega); rwa [show 30 + 10 * i' + 6 = 36 + 10 * i' by omega, show 30 + 10 * i + 6 = 36 + 10 * i by omega] at this
theorem mk_TW.mv {A : mk_A} {u u' : mk_U} {i i' : Nat} (q : mk_TW A u i) (e : ∀ f, f ≤ 6 → u' (30 + 10 * i' + f) = u (30 + 10 * i + f)) : mk_TW A u' i' := by
  obtain ⟨e0, e1, e2, e3, e4, e5, e6⟩ := mk_f7 e
  unfold mk_TW at q ⊢
  rw [e0, e1, e2, e3, e4, e5, e6]
  exact q
theorem mk_TX.mv {u u' : mk_U} {c i i' : Nat} {h : mm_H} (q : mk_TX u c i h) (e : ∀ f, f ≤ 6 → u' (30 + 10 * i' + f) = u (30 + 10 * i + f)) : mk_TX u' c i' h := by
  obtain ⟨e0, e1, e2, e3, e4, e5, e6⟩ := mk_f7 e
  unfold mk_TX at q ⊢
  rw [e0, e1, e2, e3, e4, e5, e6]
  exact q
theorem mk_TM.mv {u u' : mk_U} {i : Nat} {h : mm_H} (q : mk_TM u i h) (e : ∀ f, f ≤ 6 → u' (30 + 10 * i + f) = u (30 + 10 * i + f)) : mk_TM u' i h := by
  obtain ⟨e0, e1, e2, e3, e4, e5, e6⟩ := mk_f7 e
  unfold mk_TM at q ⊢
  rw [e0, e1, e2, e3, e4, e5, e6]
  exact q
/-- the reference's talk i is laid as talk k -/
theorem mi_lays {A : mk_A} {u : mk_U} {i k : Nat} {h : mm_H} (hi : i < 5) (hk : k < 5) (hik : ¬ i = k) (q : mk_TM u i h) (hw : mk_TW A u i) : mk_ok ((f_M_laysLines (Int32.ofNat i) (Int32.ofNat k) h).bind fun v => f_M_laysSeen (Int32.ofNat i) (Int32.ofNat k) v) (fun v => mk_ch (fun c => 293 ≤ c ∧ c ≤ 300) h v ∧ (∀ (u' : mk_U), (∀ f, f ≤ 6 → u' (30 + 10 * k + f) = u (30 + 10 * i + f)) → mk_TM u' k v) ∧ ∀ j, ¬ j = k → (v.1 293 j = h.1 293 j ∧ v.1 298 j = h.1 298 j) ∧ (∀ c n, 294 ≤ c → c ≤ 297 → n < 30 → v.1 c (30 * j + n) = h.1 c (30 * j + n)) ∧ (∀ c n, 299 ≤ c → c ≤ 300 → n < 10 → v.1 c (10 * j + n) = h.1 c (10 * j + n))) := by
  refine mk_ok.bind (mi_laysLines (by omega) (by omega) hik) (fun v1 ⟨a1, a2⟩ => ?_)
  refine mk_ok.cons (mi_laysSeen hi hk hik) (fun v ⟨b1, b2⟩ => ?_)
  obtain ⟨w1, w2, w3, w4⟩ := hw
  obtain ⟨q1, q2, q3, q4⟩ := q
  have w : ∀ c j, ¬ (298 ≤ c ∧ c ≤ 300) → v.1 c j = v1.1 c j := fun c j hc => by rw [b2, if_neg (by omega), if_neg (by omega), if_neg (by omega)]
  have w1' : ∀ c j, ¬ (293 ≤ c ∧ c ≤ 297) → v1.1 c j = h.1 c j := fun c j hc => by rw [a2, if_neg (by omega), if_neg (by omega)]
  refine ⟨⟨fun c hc => ⟨funext fun j => ?_, by rw [b1, a1]⟩, by rw [b1, a1]⟩, fun u' e => ?_, fun j hj => ⟨⟨?_, ?_⟩, fun c n h1 h2 h3 => ?_, fun c n h1 h2 h3 => ?_⟩⟩
  · rw [w c j (by omega), w1' c j (by omega)]
  · obtain ⟨e0, e1, e2, e3, e4, e5, e6⟩ := mk_f7 e
    unfold mk_TM
    rw [e0, e1, e2, e3, e4, e5, e6]
    refine ⟨?_, ?_, fun n hn => ?_, fun n hn => ?_⟩
    · rw [w _ _ (by omega), a2, if_pos ⟨rfl, rfl⟩]; exact q1
    · rw [b2, if_pos ⟨rfl, rfl⟩, w1' _ _ (by omega)]; exact q2
    · have z := q3 n hn
      have ww : ∀ c, 294 ≤ c → c ≤ 297 → v.1 c (30 * k + n) = h.1 c (30 * i + n) := fun c h1 h2 => by
        rw [w _ _ (by omega), a2, if_neg (by omega), if_pos (by omega), show 30 * i + (30 * k + n - 30 * k) = 30 * i + n by omega]
      rw [ww 294 (by omega) (by omega), ww 295 (by omega) (by omega), ww 296 (by omega) (by omega), ww 297 (by omega) (by omega)]
      exact z
    · have z := q4 n hn
      have z6 := (w4 n hn).2
      rw [b2, if_neg (by omega), if_pos (by omega), b2, if_neg (by omega), if_neg (by omega), if_pos (by omega), w1' _ _ (by omega), w1' _ _ (by omega), show 10 * i + (10 * k + n - 10 * k) = 10 * i + n by omega, z.1, z.2]
      refine ⟨rfl, ?_⟩
      have : u (36 + 10 * i) n = 0 ∨ u (36 + 10 * i) n = 1 := by omega
      rcases this with e | e <;> rw [e] <;> rfl
  · rw [w _ _ (by omega), a2, if_neg (by omega), if_neg (by omega)]
  · rw [b2, if_neg (by omega), if_neg (by omega), if_neg (by omega), w1' _ _ (by omega)]
  · rw [w _ _ (by omega), a2, if_neg (by omega), if_neg (by omega)]
  · rw [b2, if_neg (by omega), if_neg (by omega), if_neg (by omega), w1' _ _ (by omega)]
def mk_lay (u : mk_U) (r : Nat → Nat) (m : Nat) : mk_U := fun c => if c = 0 then (fun j => if j = 2 then u 0 2 ||| 2 ^ m else u 0 j) else if c = 20 + m then r else if 40 + 10 * m ≤ c ∧ c ≤ 46 + 10 * m then u (c - (10 + 10 * m)) else u c
def mk_back (u : mk_U) (m : Nat) : mk_U := fun c => if c = 0 then (fun j => if j = 0 then 0 else u 0 j) else if 30 ≤ c ∧ c ≤ 36 then u (c + (10 + 10 * m)) else u c
theorem mx_lay {A : mk_A} {E : mk_E} {t : Nat} {r : Nat → Nat} {u : mk_U} {h : mm_H} (hw : mk_wf A r u) {m : Nat} (hm4 : m < 4) (hX : mk_X A E t r u h) : mk_ok (f_X_mark (Int32.ofNat m) 0 h) (fun v => v.1 = 1 ∧ mk_X A E t r (mk_lay u r m) v.2 ∧ mk_fM h v.2) := by
  have hT := hw.1
  have hW := hw.2.1
  have hs3 := hw.2.2.1
  have hs4 := hw.2.2.2.1
  have r0 : 0 ≤ Int32.ofNat m ∧ Int32.ofNat m ≤ 3 := ⟨(mn_lle (b := 0) (show m < 2147483648 by omega) (by decide)).mpr (Nat.zero_le _), (mn_lel (b := 3) (show m < 2147483648 by omega) (by decide)).mpr (show m ≤ 3 by omega)⟩
  have n0 : ¬ Int32.ofNat m < 0 := Int32.not_lt.mpr r0.1
  have n4 : ¬ (4 : Int32) ≤ Int32.ofNat m := fun z => absurd ((mn_lle (b := 4) (show m < 2147483648 by omega) (by decide)).mp z) (show ¬ 4 ≤ m by omega)
  have ix4 : mm_ix (Int32.ofNat m) 4 = some m := mn_ix hm4 (by omega)
  have ue0 : mk_lay u r m 0 0 = u 0 0 := rfl
  have ue1 : mk_lay u r m 0 1 = u 0 1 := rfl
  have ue2 : mk_lay u r m 0 2 = u 0 2 ||| 2 ^ m := rfl
  have ur : mk_lay u r m (20 + m) = r := by unfold mk_lay; rw [if_neg (by omega), if_pos rfl]
  have ut : ∀ f, f ≤ 6 → mk_lay u r m (30 + 10 * (1 + m) + f) = u (30 + 10 * 0 + f) := fun f hf => by
    unfold mk_lay
    rw [if_neg (by omega), if_neg (by omega), if_pos (by omega), show 30 + 10 * (1 + m) + f - (10 + 10 * m) = 30 + 10 * 0 + f by omega]
  have uo : ∀ c, ¬ c = 0 → ¬ c = 20 + m → ¬ (40 + 10 * m ≤ c ∧ c ≤ 46 + 10 * m) → mk_lay u r m c = u c := fun c h1 h2 h3 => by unfold mk_lay; rw [if_neg h1, if_neg h2, if_neg h3]
  obtain ⟨⟨x0, x0'⟩, x1', x2', ⟨x3, x4, x5⟩, ⟨x6, x7⟩, x8, x9, x10⟩ := hX
  have ht := x1'.1
  unfold f_X_mark
  rw [if_neg n0, if_neg n4]
  simp only [mm_jp, if_true]
  refine mk_ok.bs ix4 ?_
  refine mk_ok.bind (mx_copyFrom hT x2' (mk_ptag.2.1 m hm4) (by omega)) (fun v9 ⟨c1, c2⟩ => ?_)
  refine mk_ok.bs ix4 ?_
  refine mk_ok.bind (mx_talkCopy (x8.ch c1 (fun j q => by omega)) ⟨hw.2.2.2.2.1.1, hw.2.2.2.2.1.2.1⟩ (mk_ttag.2 m hm4) mk_ttag.1 (by omega)) (fun v15 ⟨d1, d2⟩ => ?_)
  simp only [mm_let]
  have e18 : v15.1 32 18 = Int32.ofNat (u 0 2) := by rw [d1.e1 (by omega), c1.e1 (by omega)]; exact x6
  rw [e18, mn_shl (show m < 32 by omega), mn_or]
  have k9 : mk_ch (fun c => c = 32) v15 (mm_pI v15 32 18 (Int32.ofNat (u 0 2 ||| 2 ^ m))) := mk_ch.pI (D := fun c => c = 32) rfl
  have k : mk_ch (fun c => c = 32 ∨ (209 + 13 * m ≤ c ∧ c ≤ 221 + 13 * m)) h (mm_pI v15 32 18 (Int32.ofNat (u 0 2 ||| 2 ^ m))) := ((c1.mono (D := fun c => c = 32 ∨ (209 + 13 * m ≤ c ∧ c ≤ 221 + 13 * m)) (fun c q => by omega)).tr (d1.mono (D := fun c => c = 32 ∨ (209 + 13 * m ≤ c ∧ c ≤ 221 + 13 * m)) (fun c q => by omega)) (fun _ q => q) (fun _ q => q)).tr k9 (fun _ q => q) (fun c q => Or.inl q)
  have s32 : ∀ j, ¬ j = 18 → (mm_pI v15 32 18 (Int32.ofNat (u 0 2 ||| 2 ^ m))).1 32 j = h.1 32 j := fun j hj => by
    rw [mp_I1, if_neg (fun z => hj z.2), d1.e1 (by omega), c1.e1 (by omega)]
  refine mk_ok.ret ⟨rfl, ⟨⟨by rw [k.2]; exact x0, by rw [k.2]; exact x0'⟩, x1'.ch k (fun j q => by omega), x2'.ch k (fun j q => by omega), ⟨?_, ?_, fun i hi2 => ?_⟩, ⟨?_, fun j hj hb => ?_⟩, ?_, ?_, ?_⟩, mk_fM.of k (fun c q => by omega)⟩
  · rw [s32 16 (by omega)]; exact x3
  · rw [s32 17 (by omega)]; exact x4
  · rw [ue0] at hi2
    have h16 := hs3.1
    rw [uo (1 + i) (by omega) (by omega) (by omega), ue0, ue1]
    have := Nat.mod_lt (u 0 1 + 16 - u 0 0 + i) (show 0 < 16 by omega)
    exact (x5 i hi2).ch k (fun c q => by omega)
  · show (mm_pI v15 32 18 _).1 32 18 = _
    rw [mp_I1, if_pos ⟨rfl, rfl⟩]; rfl
  · by_cases e : j = m
    · subst e
      rw [ur]
      refine ⟨(c2.ch d1 (fun c q => by omega)).ch k9 (fun c q => by omega), (d2 (mk_lay u r j) (1 + j) ut).ch k9 (fun c q => by omega)⟩
    · rw [ue2, mk_or_bit, decide_eq_false e, Bool.or_false] at hb
      rw [uo _ (by omega) (by omega) (by omega)]
      exact ⟨(x7 j hj hb).1.ch k (fun c q => by omega), ((x7 j hj hb).2.ch k (fun c q => by omega)).mv (fun f hf => uo _ (by omega) (by omega) (by omega))⟩
  · exact (x8.ch k (fun j q => by omega)).mv (fun f hf => uo _ (by omega) (by omega) (by omega))
  · unfold mk_PX
    rw [uo 90 (by omega) (by omega) (by omega), uo 91 (by omega) (by omega) (by omega)]
    exact x9.ch k ⟨by omega, by omega⟩
  · have := x10.ch k ⟨by omega, by omega⟩
    exact ⟨fun p hp => by rw [uo _ (by omega) (by omega) (by omega)]; exact this.1 p hp, fun p hp => by rw [uo _ (by omega) (by omega) (by omega)]; exact this.2 p hp⟩
theorem mi_lay {A : mk_A} {E : mk_E} {r : Nat → Nat} {u : mk_U} {h : mm_H} (hw : mk_wf A r u) {m : Nat} (hm4 : m < 4) (hM : mk_M A E r u h) : mk_ok (f_M_mark (Int32.ofNat m) 0 h) (fun v => v.1 = 1 ∧ mk_M A E r (mk_lay u r m) v.2 ∧ mk_fX h v.2) := by
  have hT := hw.1
  have hW := hw.2.1
  have hs3 := hw.2.2.1
  have hs4 := hw.2.2.2.1
  have r0 : 0 ≤ Int32.ofNat m ∧ Int32.ofNat m ≤ 3 := ⟨(mn_lle (b := 0) (show m < 2147483648 by omega) (by decide)).mpr (Nat.zero_le _), (mn_lel (b := 3) (show m < 2147483648 by omega) (by decide)).mpr (show m ≤ 3 by omega)⟩
  have n0 : ¬ Int32.ofNat m < 0 := Int32.not_lt.mpr r0.1
  have n4 : ¬ (4 : Int32) ≤ Int32.ofNat m := fun z => absurd ((mn_lle (b := 4) (show m < 2147483648 by omega) (by decide)).mp z) (show ¬ 4 ≤ m by omega)
  have ix4 : mm_ix (Int32.ofNat m) 4 = some m := mn_ix hm4 (by omega)
  have ue0 : mk_lay u r m 0 0 = u 0 0 := rfl
  have ue1 : mk_lay u r m 0 1 = u 0 1 := rfl
  have ue2 : mk_lay u r m 0 2 = u 0 2 ||| 2 ^ m := rfl
  have ur : mk_lay u r m (20 + m) = r := by unfold mk_lay; rw [if_neg (by omega), if_pos rfl]
  have ut : ∀ f, f ≤ 6 → mk_lay u r m (30 + 10 * (1 + m) + f) = u (30 + 10 * 0 + f) := fun f hf => by
    unfold mk_lay
    rw [if_neg (by omega), if_neg (by omega), if_pos (by omega), show 30 + 10 * (1 + m) + f - (10 + 10 * m) = 30 + 10 * 0 + f by omega]
  have uo : ∀ c, ¬ c = 0 → ¬ c = 20 + m → ¬ (40 + 10 * m ≤ c ∧ c ≤ 46 + 10 * m) → mk_lay u r m c = u c := fun c h1 h2 h3 => by unfold mk_lay; rw [if_neg h1, if_neg h2, if_neg h3]
  unfold f_M_mark
  refine mk_ok.let ?_
  have p0 : mk_s2m h (mm_pI h 261 0 0) := mk_s2m.pI ⟨by decide, by decide⟩
  have hM1 := hM.s2 p0
  revert p0 hM1
  generalize mm_pI h 261 0 0 = h1
  intro p0 hM1
  refine mk_ok.bs (mp_within _ _ _) ?_
  rw [if_pos r0, if_neg (by decide)]
  simp only [mm_jp, if_true]
  refine mk_ok.bs ix4 ?_
  simp only [mm_let, Option.bind_some]
  obtain ⟨m1, m2, ⟨m3, m4⟩, m5, m6, m7, m8⟩ := hM1
  have ka : mk_ch (fun c => c = 305) h1 (mm_pI h1 305 m ((1 : Int32) &&& 1)) := mk_ch.pI (D := fun c => c = 305) rfl
  have w305 : ∀ j, (mm_pI h1 305 m ((1 : Int32) &&& 1)).1 305 j = if j = m then 1 else h1.1 305 j := fun j => by
    rw [mp_I1]
    by_cases e : j = m
    · rw [if_pos ⟨rfl, e⟩, if_pos e]; rfl
    · rw [if_neg (fun z => e z.2), if_neg e]
  generalize mm_pI h1 305 m ((1 : Int32) &&& 1) = h2 at ka w305 ⊢
  have eo : (1 : Int32) + Int32.ofNat m = Int32.ofNat (1 + m) := mn_ladd 1 m
  rw [eo]
  have L := mi_lays (A := A) (k := 1 + m) (show 0 < 5 by omega) (by omega) (by omega) (m6.ch ka (fun j q => by omega)) hw.2.2.2.2.1
  obtain ⟨v25, eL, l1, l2, l3⟩ := L
  obtain ⟨v23, e23, e25⟩ := mm_bind eL
  refine mk_ok.bs (show f_M_laysLines 0 (Int32.ofNat (1 + m)) h2 = some v23 from e23) ?_
  refine mk_ok.bs (show f_M_laysSeen 0 (Int32.ofNat (1 + m)) v23 = some v25 from e25) ?_
  have e123 : (123 : Int32) * Int32.ofNat m = Int32.ofNat (123 * m) := mn_lmul 123 m
  rw [e123]
  refine mk_ok.bind (mi_copies (x := 0) (y := 123 * m) mk_ptag.2.2.1 mk_ptag.2.2.2.2.1 (by decide) (by omega) (by omega) (by omega)) (fun v27 ⟨y1, y2⟩ => ?_)
  have kb : mk_ch (fun c => c = 303) v25 v27 := ⟨fun c hc => ⟨funext fun j => by rw [y2, if_neg (fun z => hc z.1)], by rw [y1]⟩, by rw [y1]⟩
  have kl : mk_ch (fun c => 293 ≤ c ∧ c ≤ 305 ∧ ¬ c = 301 ∧ ¬ c = 304) h1 v27 := ((ka.mono (D := fun c => 293 ≤ c ∧ c ≤ 305 ∧ ¬ c = 301 ∧ ¬ c = 304) (fun c q => by omega)).tr (l1.mono (D := fun c => 293 ≤ c ∧ c ≤ 305 ∧ ¬ c = 301 ∧ ¬ c = 304) (fun c q => by omega)) (fun _ q => q) (fun _ q => q)).tr kb (fun _ q => q) (fun c q => by omega)
  have r301 := m2.ch kl (by omega)
  refine mk_ok.ret ⟨rfl, ⟨m1.ch kl (fun j q => by omega), r301, ⟨?_, fun i hi2 j hj => ?_⟩, fun j hj => ?_, ?_, ?_, ?_⟩, (mk_fX.s2 p0).tr (mk_fX.of kl (fun c q => by omega))⟩
  · rw [kl.e1 (by omega)]; exact m3
  · rw [ue0] at hi2
    have h16 := hs3.1
    rw [uo (1 + i) (by omega) (by omega) (by omega), kl.e1 (c := 304) (by omega)]
    exact m4 i hi2 j hj
  · rw [ue2, mk_or_bit, kb.e1 (c := 305) (by omega), l1.e1 (c := 305) (by omega), w305]
    by_cases e : j = m
    · subst e
      rw [if_pos rfl, decide_eq_true rfl, Bool.or_true, ur]
      refine ⟨rfl, fun _ => ⟨fun n hn => ?_, (l2 (mk_lay u r j) ut).ch kb (fun c q => by omega)⟩⟩
      have q27 := r301 n hn
      rw [kb.e1 (c := 301) (by omega)] at q27
      rw [y2, if_pos ⟨rfl, by omega, by omega⟩, show 0 + (123 * j + n - 123 * j) = n by omega]
      exact q27
    · rw [if_neg e, decide_eq_false e, Bool.or_false, uo (20 + j) (by omega) (by omega) (by omega)]
      refine ⟨(m5 j hj).1, fun hb => ⟨fun n hn => ?_, ?_⟩⟩
      · rw [y2, if_neg (by omega), l1.e1 (by omega), ka.e1 (by omega)]
        exact ((m5 j hj).2 hb).1 n hn
      · have wf1 := (hs4.2 j hj hb).2
        have z0 := ((m5 j hj).2 hb).2.ch ka (fun c q => by omega)
        obtain ⟨l4, l5, l6⟩ := l3 (1 + j) (by omega)
        have z1 : mk_TM u (1 + j) v25 := mk_TM.sl ⟨wf1.1, wf1.2.1⟩ z0 l4 l5 l6
        exact (z1.ch kb (fun c q => by omega)).mv (fun f hf => uo _ (by omega) (by omega) (by omega))
  · have z0 := m6.ch ka (fun c q => by omega)
    obtain ⟨l4, l5, l6⟩ := l3 0 (by omega)
    have z1 : mk_TM u 0 v25 := mk_TM.sl ⟨hw.2.2.2.2.1.1, hw.2.2.2.2.1.2.1⟩ z0 l4 l5 l6
    exact (z1.ch kb (fun c q => by omega)).mv (fun f hf => uo _ (by omega) (by omega) (by omega))
  · unfold mk_PM
    rw [uo 90 (by omega) (by omega) (by omega), uo 91 (by omega) (by omega) (by omega), kl.e1 (c := 261) (by omega), kl.e1 (c := 262) (by omega)]
    exact m7
  · have := m8.ch kl ⟨by omega, by omega⟩
    exact ⟨fun p hp => by rw [uo _ (by omega) (by omega) (by omega)]; exact this.1 p hp, fun p hp => by rw [uo _ (by omega) (by omega) (by omega)]; exact this.2 p hp⟩
theorem mx_back {A : mk_A} {E : mk_E} {t : Nat} {r : Nat → Nat} {u : mk_U} {h : mm_H} (hw : mk_wf A r u) {m : Nat} (hm4 : m < 4) (hb : (u 0 2).testBit m = true) (hX : mk_X A E t r u h) : mk_ok (f_X_mark (Int32.ofNat m) 1 h) (fun v => v.1 = 1 ∧ mk_X A E t (u (20 + m)) (mk_back u m) v.2 ∧ mk_fM h v.2) := by
  have hT := hw.1
  have hW := hw.2.1
  have hs3 := hw.2.2.1
  have hs4 := hw.2.2.2.1
  have r0 : 0 ≤ Int32.ofNat m ∧ Int32.ofNat m ≤ 3 := ⟨(mn_lle (b := 0) (show m < 2147483648 by omega) (by decide)).mpr (Nat.zero_le _), (mn_lel (b := 3) (show m < 2147483648 by omega) (by decide)).mpr (show m ≤ 3 by omega)⟩
  have n0 : ¬ Int32.ofNat m < 0 := Int32.not_lt.mpr r0.1
  have n4 : ¬ (4 : Int32) ≤ Int32.ofNat m := fun z => absurd ((mn_lle (b := 4) (show m < 2147483648 by omega) (by decide)).mp z) (show ¬ 4 ≤ m by omega)
  have ix4 : mm_ix (Int32.ofNat m) 4 = some m := mn_ix hm4 (by omega)
  have ue0 : mk_back u m 0 0 = 0 := rfl
  have ue1 : mk_back u m 0 1 = u 0 1 := rfl
  have ue2 : mk_back u m 0 2 = u 0 2 := rfl
  have ut : ∀ f, f ≤ 6 → mk_back u m (30 + 10 * 0 + f) = u (30 + 10 * (1 + m) + f) := fun f hf => by
    unfold mk_back
    rw [if_neg (by omega), if_pos (by omega), show 30 + 10 * 0 + f + (10 + 10 * m) = 30 + 10 * (1 + m) + f by omega]
  have uo : ∀ c, ¬ c = 0 → ¬ (30 ≤ c ∧ c ≤ 36) → mk_back u m c = u c := fun c h1 h2 => by unfold mk_back; rw [if_neg h1, if_neg h2]
  have hmw := hs4.2 m hm4 hb
  obtain ⟨⟨x0, x0'⟩, x1', x2', ⟨x3, x4, x5⟩, ⟨x6, x7⟩, x8, x9, x10⟩ := hX
  have ht := x1'.1
  obtain ⟨z1, z2⟩ := x7 m hm4 hb
  unfold f_X_mark
  rw [if_neg n0, if_neg n4]
  simp only [mm_jp]
  rw [if_neg (show ¬ (1 : Int32) = 0 by decide), x6, mn_xbit (show u 0 2 < 2147483648 by omega) (by omega), hb]
  refine mk_ok.bs rfl ?_
  rw [if_neg (by decide), if_neg (show ¬ (1 : Int32) = 0 by decide)]
  refine mk_ok.bs ix4 ?_
  refine mk_ok.bind (mx_copyFrom hT z1 mk_ftags.2.2.2.2.2.2.1 (by omega)) (fun v23 ⟨c1, c2⟩ => ?_)
  refine mk_ok.bs ix4 ?_
  refine mk_ok.bind (mx_talkCopy (z2.ch c1 (fun j q => by omega)) ⟨hmw.2.1, hmw.2.2.1⟩ mk_ttag.1 (mk_ttag.2 m hm4) (by omega)) (fun v29 ⟨d1, d2⟩ => ?_)
  simp only [mm_let]
  have k9 : mk_ch (fun c => c = 32) v29 (mm_pI v29 32 16 0) := mk_ch.pI (D := fun c => c = 32) rfl
  have k : mk_ch (fun c => c = 32 ∨ (35 ≤ c ∧ c ≤ 40) ∨ (47 ≤ c ∧ c ≤ 53)) h (mm_pI v29 32 16 0) := ((c1.mono (D := fun c => c = 32 ∨ (35 ≤ c ∧ c ≤ 40) ∨ (47 ≤ c ∧ c ≤ 53)) (fun c q => by omega)).tr (d1.mono (D := fun c => c = 32 ∨ (35 ≤ c ∧ c ≤ 40) ∨ (47 ≤ c ∧ c ≤ 53)) (fun c q => by omega)) (fun _ q => q) (fun _ q => q)).tr k9 (fun _ q => q) (fun c q => Or.inl q)
  have s32 : ∀ j, ¬ j = 16 → (mm_pI v29 32 16 0).1 32 j = h.1 32 j := fun j hj => by
    rw [mp_I1, if_neg (fun z => hj z.2), d1.e1 (by omega), c1.e1 (by omega)]
  refine mk_ok.ret ⟨rfl, ⟨⟨by rw [k.2]; exact x0, by rw [k.2]; exact x0'⟩, x1'.ch k (fun j q => by omega), (c2.ch d1 (fun c q => by omega)).ch k9 (fun c q => by omega), ⟨?_, ?_, fun i hi2 => ?_⟩, ⟨?_, fun j hj hb => ?_⟩, ?_, ?_, ?_⟩, mk_fM.of k (fun c q => by omega)⟩
  · show (mm_pI v29 32 16 0).1 32 16 = _
    rw [mp_I1, if_pos ⟨rfl, rfl⟩]; rfl
  · rw [s32 17 (by omega)]; exact x4
  · rw [ue0] at hi2; omega
  · rw [s32 18 (by omega)]; exact x6
  · rw [ue2] at hb
    rw [uo (20 + j) (by omega) (by omega)]
    exact ⟨(x7 j hj hb).1.ch k (fun c q => by omega), ((x7 j hj hb).2.ch k (fun c q => by omega)).mv (fun f hf => uo _ (by omega) (by omega))⟩
  · exact (d2 (mk_back u m) 0 ut).ch k9 (fun c q => by omega)
  · unfold mk_PX
    rw [uo 90 (by omega) (by omega), uo 91 (by omega) (by omega)]
    exact x9.ch k ⟨by omega, by omega⟩
  · have := x10.ch k ⟨by omega, by omega⟩
    exact ⟨fun p hp => by rw [uo _ (by omega) (by omega)]; exact this.1 p hp, fun p hp => by rw [uo _ (by omega) (by omega)]; exact this.2 p hp⟩
theorem mi_back {A : mk_A} {E : mk_E} {r : Nat → Nat} {u : mk_U} {h : mm_H} (hw : mk_wf A r u) {m : Nat} (hm4 : m < 4) (hb : (u 0 2).testBit m = true) (hM : mk_M A E r u h) : mk_ok (f_M_mark (Int32.ofNat m) 1 h) (fun v => v.1 = 1 ∧ mk_M A E (u (20 + m)) (mk_back u m) v.2 ∧ mk_fX h v.2) := by
  have hT := hw.1
  have hW := hw.2.1
  have hs3 := hw.2.2.1
  have hs4 := hw.2.2.2.1
  have r0 : 0 ≤ Int32.ofNat m ∧ Int32.ofNat m ≤ 3 := ⟨(mn_lle (b := 0) (show m < 2147483648 by omega) (by decide)).mpr (Nat.zero_le _), (mn_lel (b := 3) (show m < 2147483648 by omega) (by decide)).mpr (show m ≤ 3 by omega)⟩
  have n0 : ¬ Int32.ofNat m < 0 := Int32.not_lt.mpr r0.1
  have n4 : ¬ (4 : Int32) ≤ Int32.ofNat m := fun z => absurd ((mn_lle (b := 4) (show m < 2147483648 by omega) (by decide)).mp z) (show ¬ 4 ≤ m by omega)
  have ix4 : mm_ix (Int32.ofNat m) 4 = some m := mn_ix hm4 (by omega)
  have ue0 : mk_back u m 0 0 = 0 := rfl
  have ue1 : mk_back u m 0 1 = u 0 1 := rfl
  have ue2 : mk_back u m 0 2 = u 0 2 := rfl
  have ut : ∀ f, f ≤ 6 → mk_back u m (30 + 10 * 0 + f) = u (30 + 10 * (1 + m) + f) := fun f hf => by
    unfold mk_back
    rw [if_neg (by omega), if_pos (by omega), show 30 + 10 * 0 + f + (10 + 10 * m) = 30 + 10 * (1 + m) + f by omega]
  have uo : ∀ c, ¬ c = 0 → ¬ (30 ≤ c ∧ c ≤ 36) → mk_back u m c = u c := fun c h1 h2 => by unfold mk_back; rw [if_neg h1, if_neg h2]
  have hmw := hs4.2 m hm4 hb
  unfold f_M_mark
  refine mk_ok.let ?_
  have p0 : mk_s2m h (mm_pI h 261 0 0) := mk_s2m.pI ⟨by decide, by decide⟩
  have hM1 := hM.s2 p0
  revert p0 hM1
  generalize mm_pI h 261 0 0 = h1
  intro p0 hM1
  refine mk_ok.bs (mp_within _ _ _) ?_
  rw [if_pos r0, if_neg (by decide)]
  simp only [mm_jp]
  rw [if_neg (show ¬ (1 : Int32) = 0 by decide)]
  refine mk_ok.bs ix4 ?_
  rw [(hM1.2.2.2.1 m hm4).1, hb, if_neg (by decide)]
  refine mk_ok.bs ix4 ?_
  refine mk_ok.let ?_
  have n10 : ¬ (1 : Int32) = 0 := by decide
  refine mk_ok.bs (if_neg n10) ?_
  refine mk_ok.bs (if_neg n10) ?_
  obtain ⟨m1, m2, ⟨m3, m4⟩, m5, m6, m7, m8⟩ := hM1
  have ka : mk_ch (fun c => c = 305) h1 (mm_pI h1 305 m ((1 : Int32) &&& 1)) := mk_ch.pI (D := fun c => c = 305) rfl
  have w305 : ∀ j, (mm_pI h1 305 m ((1 : Int32) &&& 1)).1 305 j = if j = m then 1 else h1.1 305 j := fun j => by
    rw [mp_I1]
    by_cases e : j = m
    · rw [if_pos ⟨rfl, e⟩, if_pos e]; rfl
    · rw [if_neg (fun z => e z.2), if_neg e]
  generalize mm_pI h1 305 m ((1 : Int32) &&& 1) = h2 at ka w305 ⊢
  have eo : (1 : Int32) + Int32.ofNat m = Int32.ofNat (1 + m) := mn_ladd 1 m
  rw [eo]
  have L := mi_lays (A := A) (i := 1 + m) (k := 0) (by omega) (by omega) (by omega) (((m5 m hm4).2 hb).2.ch ka (fun j q => by omega)) hmw.2
  obtain ⟨v25, eL, l1, l2, l3⟩ := L
  obtain ⟨v23, e23, e25⟩ := mm_bind eL
  refine mk_ok.bs (show f_M_laysLines (Int32.ofNat (1 + m)) 0 h2 = some v23 from e23) ?_
  refine mk_ok.bs (show f_M_laysSeen (Int32.ofNat (1 + m)) 0 v23 = some v25 from e25) ?_
  rw [if_neg n10]
  have e123 : (123 : Int32) * Int32.ofNat m = Int32.ofNat (123 * m) := mn_lmul 123 m
  rw [e123]
  refine mk_ok.bind (mi_copies (x := 123 * m) (y := 0) mk_ptag.2.2.2.2.1 mk_ptag.2.2.1 (by decide) (by omega) (by omega) (by omega)) (fun v29 ⟨y1, y2⟩ => ?_)
  have w55 : ∀ c j, (mm_pI v29 261 55 0).1 c j = if c = 261 ∧ j = 55 then 0 else v29.1 c j := fun c j => rfl
  have kb : mk_ch (fun c => c = 301 ∨ c = 261) v25 (mm_pI v29 261 55 0) := ⟨fun c hc => ⟨funext fun j => by rw [w55, if_neg (fun z => hc (Or.inr z.1)), y2, if_neg (fun z => hc (Or.inl z.1))], by show v29.2.1 c = _; rw [y1]⟩, by show v29.2.2 = _; rw [y1]⟩
  have kl : mk_ch (fun c => c = 261 ∨ (293 ≤ c ∧ c ≤ 301) ∨ c = 305) h1 (mm_pI v29 261 55 0) := ((ka.mono (D := fun c => c = 261 ∨ (293 ≤ c ∧ c ≤ 301) ∨ c = 305) (fun c q => by omega)).tr (l1.mono (D := fun c => c = 261 ∨ (293 ≤ c ∧ c ≤ 301) ∨ c = 305) (fun c q => by omega)) (fun _ q => q) (fun _ q => q)).tr kb (fun _ q => q) (fun c q => by omega)
  refine mk_ok.let ?_
  refine mk_ok.ret ⟨rfl, ⟨m1.ch kl (fun j q => by omega), fun n hn => ?_, ⟨?_, fun i hi2 j hj => ?_⟩, fun j hj => ?_, ?_, ?_, ?_⟩, (mk_fX.s2 p0).tr (mk_fX.of kl (fun c q => by omega))⟩
  · show (mm_pI v29 261 55 0).1 301 n = _
    rw [w55, if_neg (by omega), y2, if_pos ⟨rfl, by omega, by omega⟩, l1.e1 (by omega), ka.e1 (by omega), show 123 * m + (n - 0) = 123 * m + n by omega]
    exact ((m5 m hm4).2 hb).1 n hn
  · show (mm_pI v29 261 55 0).1 261 55 = _
    rw [w55, if_pos ⟨rfl, rfl⟩]; rfl
  · rw [ue0] at hi2; omega
  · rw [ue2, kb.e1 (c := 305) (by omega), l1.e1 (c := 305) (by omega), w305, uo (20 + j) (by omega) (by omega)]
    have q5 := m5 j hj
    refine ⟨?_, fun hbj => ⟨fun n hn => ?_, ?_⟩⟩
    · by_cases e : j = m
      · subst e; rw [if_pos rfl, hb]; rfl
      · rw [if_neg e]; exact q5.1
    · rw [kl.e1 (c := 303) (by omega)]
      exact (q5.2 hbj).1 n hn
    · have wf1 := (hs4.2 j hj hbj).2
      have z0 := (q5.2 hbj).2.ch ka (fun c q => by omega)
      obtain ⟨l4, l5, l6⟩ := l3 (1 + j) (by omega)
      have z1 : mk_TM u (1 + j) v25 := mk_TM.sl ⟨wf1.1, wf1.2.1⟩ z0 l4 l5 l6
      exact (z1.ch kb (fun c q => by omega)).mv (fun f hf => uo _ (by omega) (by omega))
  · exact (l2 (mk_back u m) ut).ch kb (fun c q => by omega)
  · unfold mk_PM
    rw [uo 90 (by omega) (by omega), uo 91 (by omega) (by omega), kl.e1 (c := 262) (by omega)]
    refine ⟨?_, m7.2⟩
    show (mm_pI v29 261 55 0).1 261 1 = _
    rw [w55, if_neg (by omega), y2, if_neg (by omega), l1.e1 (by omega), ka.e1 (by omega)]
    exact m7.1
  · have := m8.ch kl ⟨by omega, by omega⟩
    exact ⟨fun p hp => by rw [uo _ (by omega) (by omega)]; exact this.1 p hp, fun p hp => by rw [uo _ (by omega) (by omega)]; exact this.2 p hp⟩
theorem mc_mark (x1 x2 : Int32) (hx : x2 = 0 ∨ x2 = 1) : mk_call (f_X_mark x1 x2) (f_M_mark x1 x2) := by
  refine mk_callof (fun A E t r u hw => ?_)
  have hT := hw.1
  have hW := hw.2.1
  have hs3 := hw.2.2.1
  have hs4 := hw.2.2.2.1
  have noX : ∀ h, mk_X A E t r u h → f_X_mark x1 x2 h = some (0, h) → mk_ok (f_X_mark x1 x2 h) (fun v => v.1 = 0 ∧ mk_X A E t r u v.2 ∧ mk_fM h v.2) := fun h hX e => by
    rw [e]; exact mk_ok.ret ⟨rfl, hX, mk_fM.rf⟩
  by_cases hm : mk_is 4 x1
  · obtain ⟨m, hm4, rfl⟩ := id hm
    have r0 : 0 ≤ Int32.ofNat m ∧ Int32.ofNat m ≤ 3 := ⟨(mn_lle (b := 0) (show m < 2147483648 by omega) (by decide)).mpr (Nat.zero_le _), (mn_lel (b := 3) (show m < 2147483648 by omega) (by decide)).mpr (show m ≤ 3 by omega)⟩
    have n0 : ¬ Int32.ofNat m < 0 := Int32.not_lt.mpr r0.1
    have n4 : ¬ (4 : Int32) ≤ Int32.ofNat m := fun z => absurd ((mn_lle (b := 4) (show m < 2147483648 by omega) (by decide)).mp z) (show ¬ 4 ≤ m by omega)
    have ix4 : mm_ix (Int32.ofNat m) 4 = some m := mn_ix hm4 (by omega)
    rcases hx with rfl | rfl
    · -- laid
      have ue0 : mk_lay u r m 0 0 = u 0 0 := rfl
      have ue1 : mk_lay u r m 0 1 = u 0 1 := rfl
      have ue2 : mk_lay u r m 0 2 = u 0 2 ||| 2 ^ m := rfl
      have ur : mk_lay u r m (20 + m) = r := by unfold mk_lay; rw [if_neg (by omega), if_pos rfl]
      have ut : ∀ f, f ≤ 6 → mk_lay u r m (30 + 10 * (1 + m) + f) = u (30 + 10 * 0 + f) := fun f hf => by
        unfold mk_lay
        rw [if_neg (by omega), if_neg (by omega), if_pos (by omega), show 30 + 10 * (1 + m) + f - (10 + 10 * m) = 30 + 10 * 0 + f by omega]
      have uo : ∀ c, ¬ c = 0 → ¬ c = 20 + m → ¬ (40 + 10 * m ≤ c ∧ c ≤ 46 + 10 * m) → mk_lay u r m c = u c := fun c h1 h2 h3 => by unfold mk_lay; rw [if_neg h1, if_neg h2, if_neg h3]
      have l16 : u 0 2 ||| 2 ^ m < 16 := by
        have : (2 : Nat) ^ m < 2 ^ 4 := Nat.pow_lt_pow_right (by omega) hm4
        exact Nat.or_lt_two_pow (n := 4) hs4.1 this
      have hwu : mk_wf A r (mk_lay u r m) := by
        obtain ⟨v1, v2, ⟨v3, v4, v5⟩, ⟨v6, v7⟩, v8, v9, v10, v11⟩ := hw
        refine ⟨v1, v2, ⟨v3, v4, fun i hi => ?_⟩, ⟨l16, fun k hk hb => ?_⟩, v8.mv (fun f hf => uo _ (by omega) (by omega) (by omega)), ?_, ?_, ?_⟩
        · rw [ue0] at hi
          rw [uo _ (by omega) (by omega) (by omega)]; exact v5 i hi
        · by_cases e : k = m
          · subst e
            rw [ur]
            exact ⟨v2, v8.mv ut⟩
          · rw [ue2, mk_or_bit, decide_eq_false e, Bool.or_false] at hb
            rw [uo _ (by omega) (by omega) (by omega)]
            exact ⟨(v7 k hk hb).1, (v7 k hk hb).2.mv (fun f hf => uo _ (by omega) (by omega) (by omega))⟩
        · rw [uo _ (by omega) (by omega) (by omega), uo _ (by omega) (by omega) (by omega)]; exact v9
        · intro p hp
          rw [uo _ (by omega) (by omega) (by omega)]; exact v10 p hp
        · intro p hp
          rw [uo _ (by omega) (by omega) (by omega)]; exact v11 p hp
      refine ⟨1, r, mk_lay u r m, t, hwu, fun h hX => ?_, fun h hM => ?_⟩
      · exact mx_lay hw hm4 hX
      · exact mi_lay hw hm4 hM
    · cases hb : (u 0 2).testBit m
      · refine ⟨0, r, u, t, hw, fun h hX => noX h hX ?_, fun h hM => ?_⟩
        · unfold f_X_mark
          rw [if_neg n0, if_neg n4]
          simp only [mm_jp]
          rw [if_neg (show ¬ (1 : Int32) = 0 by decide), hX.2.2.2.2.1.1, mn_xbit (show u 0 2 < 2147483648 by omega) (by omega), hb]
          rfl
        · unfold f_M_mark
          refine mk_ok.let ?_
          have p0 : mk_s2m h (mm_pI h 261 0 0) := mk_s2m.pI ⟨by decide, by decide⟩
          have hM1 := hM.s2 p0
          revert p0 hM1
          generalize mm_pI h 261 0 0 = h1
          intro p0 hM1
          refine mk_ok.bs (mp_within _ _ _) ?_
          rw [if_pos r0, if_neg (by decide)]
          simp only [mm_jp]
          rw [if_neg (show ¬ (1 : Int32) = 0 by decide)]
          refine mk_ok.bs ix4 ?_
          rw [(hM1.2.2.2.1 m hm4).1, hb, if_pos (by decide)]
          exact mk_ok.ret ⟨rfl, hM1, mk_fX.s2 p0⟩
      · -- gone back to
        have ue0 : mk_back u m 0 0 = 0 := rfl
        have ue1 : mk_back u m 0 1 = u 0 1 := rfl
        have ue2 : mk_back u m 0 2 = u 0 2 := rfl
        have ut : ∀ f, f ≤ 6 → mk_back u m (30 + 10 * 0 + f) = u (30 + 10 * (1 + m) + f) := fun f hf => by
          unfold mk_back
          rw [if_neg (by omega), if_pos (by omega), show 30 + 10 * 0 + f + (10 + 10 * m) = 30 + 10 * (1 + m) + f by omega]
        have uo : ∀ c, ¬ c = 0 → ¬ (30 ≤ c ∧ c ≤ 36) → mk_back u m c = u c := fun c h1 h2 => by unfold mk_back; rw [if_neg h1, if_neg h2]
        have hmw := hs4.2 m hm4 hb
        have hwu : mk_wf A (u (20 + m)) (mk_back u m) := by
          obtain ⟨v1, v2, ⟨v3, v4, v5⟩, ⟨v6, v7⟩, v8, v9, v10, v11⟩ := hw
          refine ⟨v1, hmw.1, ⟨by rw [ue0]; omega, v4, fun i hi => ?_⟩, ⟨v6, fun k hk hb => ?_⟩, hmw.2.mv ut, ?_, ?_, ?_⟩
          · rw [ue0] at hi; omega
          · rw [ue2] at hb
            rw [uo _ (by omega) (by omega)]
            exact ⟨(v7 k hk hb).1, (v7 k hk hb).2.mv (fun f hf => uo _ (by omega) (by omega))⟩
          · rw [uo _ (by omega) (by omega), uo _ (by omega) (by omega)]; exact v9
          · intro p hp
            rw [uo _ (by omega) (by omega)]; exact v10 p hp
          · intro p hp
            rw [uo _ (by omega) (by omega)]; exact v11 p hp
        refine ⟨1, u (20 + m), mk_back u m, t, hwu, fun h hX => ?_, fun h hM => ?_⟩
        · exact mx_back hw hm4 hb hX
        · exact mi_back hw hm4 hb hM
  · refine ⟨0, r, u, t, hw, fun h hX => noX h hX ?_, fun h hM => ?_⟩
    · unfold f_X_mark
      by_cases h1 : x1 < 0
      · rw [if_pos h1]
      · by_cases h2 : 4 ≤ x1
        · rw [if_neg h1, if_pos h2]
        · exact absurd ((mk_is_iff (n := 4) (by omega)).mpr ⟨Int32.not_lt.mp h1, Int32.not_le.mp h2⟩) hm
    · unfold f_M_mark
      refine mk_ok.let ?_
      have p0 : mk_s2m h (mm_pI h 261 0 0) := mk_s2m.pI ⟨by decide, by decide⟩
      have hM1 := hM.s2 p0
      revert p0 hM1
      generalize mm_pI h 261 0 0 = h1
      intro p0 hM1
      refine mk_ok.bs (mp_within _ _ _) ?_
      have n : ¬ (0 ≤ x1 ∧ x1 ≤ 3) := fun z => by
        obtain ⟨j, hj, e⟩ := mk_upto (n := 3) (by omega) z
        exact hm ⟨j, by omega, e⟩
      rw [if_neg n, if_pos rfl]
      exact mk_ok.ret ⟨rfl, hM1, mk_fX.s2 p0⟩
