/-! gossip: what a line leaves alone, and what it adds -/
def mj_gx (h h' : mm_H) : Prop := mk_cr (fun c => c = 33 ∨ (54 ≤ c ∧ c ≤ 60)) h h' ∧ h'.1 33 1 = h.1 33 1
theorem mj_gx.rf {h : mm_H} : mj_gx h h := ⟨mk_cr.rf, rfl⟩
theorem mj_gx.tr {h h1 h2 : mm_H} (a : mj_gx h h1) (b : mj_gx h1 h2) : mj_gx h h2 := ⟨a.1.tr b.1 (fun _ z => z) (fun _ z => z), b.2.trans a.2⟩
theorem mk_fx.gx {h h' : mm_H} (k : mk_fx h h') : mj_gx h h' := ⟨k.1.mono (fun _ z => Or.inl z), k.2.1⟩
theorem mk_FX.gx {v : Int32} {h h' : mm_H} (k : mk_FX v h h') : mj_gx h h' := ⟨k.1.mono (fun _ z => Or.inl z), k.2.1⟩
theorem mj_gx.ch {D : Nat → Prop} {h h' : mm_H} (k : mk_ch D h h') (hD : ∀ c, D c → 54 ≤ c ∧ c ≤ 60) : mj_gx h h' := ⟨(mk_cr.of k).mono (fun c z => Or.inr (hD c z)), by rw [k.e1 (fun z => by have := hD _ z; omega)]⟩
def mj_gm (n : Nat) (h h' : mm_H) : Prop := mk_ch (fun c => c = 261 ∨ (293 ≤ c ∧ c ≤ 297)) h h' ∧ (∀ j, ¬ j = 4 → ¬ j = 5 → ¬ j = 6 → ¬ j = 8 → ¬ j = 9 → ¬ j = 41 → h'.1 261 j = h.1 261 j) ∧ (∀ j, ¬ j = 5 → h'.1 293 j = h.1 293 j) ∧ ∀ c, 294 ≤ c → c ≤ 297 → ∀ k, ¬ k = n → h'.1 c k = h.1 c k
theorem mj_gm.rf {n : Nat} {h : mm_H} : mj_gm n h h := ⟨mk_ch.rf, fun _ _ _ _ _ _ _ => rfl, fun _ _ => rfl, fun _ _ _ _ _ => rfl⟩
theorem mj_gm.tr {n : Nat} {h h1 h2 : mm_H} (a : mj_gm n h h1) (b : mj_gm n h1 h2) : mj_gm n h h2 := ⟨a.1.tr b.1 (fun _ z => z) (fun _ z => z), fun j n1 n2 n3 n4 n5 n6 => (b.2.1 j n1 n2 n3 n4 n5 n6).trans (a.2.1 j n1 n2 n3 n4 n5 n6), fun j hj => (b.2.2.1 j hj).trans (a.2.2.1 j hj), fun c c1 c2 k hk => (b.2.2.2 c c1 c2 k hk).trans (a.2.2.2 c c1 c2 k hk)⟩
theorem mk_fy.gm {n : Nat} {h h' : mm_H} (k : mk_fy h h') : mj_gm n h h' := ⟨k.1.mono (fun _ z => Or.inl z), fun j n1 n2 n3 n4 _ _ => k.2 j n1 n2 n3 n4, fun j _ => by rw [k.1.e1 (c := 293) (by decide)], fun c c1 c2 j _ => by rw [k.1.e1 (by omega)]⟩
theorem mk_FM.gm {n : Nat} {v : Int32} {h h' : mm_H} (k : mk_FM v h h') : mj_gm n h h' := ⟨k.1.mono (fun _ z => Or.inl z), fun j n1 n2 n3 n4 n5 n6 => k.2.1 j n1 n2 n3 n4 n5 n6, fun j _ => by rw [k.1.e1 (c := 293) (by decide)], fun c c1 c2 j _ => by rw [k.1.e1 (by omega)]⟩
theorem mj_gm.g {n : Nat} {h : mm_H} {v : Int32} : mj_gm n h (mm_pI h 261 41 v) := ⟨mk_ch.pI (Or.inl rfl), fun j n1 n2 n3 n4 n5 n6 => by rw [mp_I1, if_neg (by omega)], fun j _ => by rw [mp_I1, if_neg (by omega)], fun c c1 c2 j _ => by rw [mp_I1, if_neg (by omega)]⟩
theorem mj_gm.c {n : Nat} {h : mm_H} {c : Nat} {v : Int32} (h1 : 294 ≤ c) (h2 : c ≤ 297) : mj_gm n h (mm_pI h c n v) := ⟨mk_ch.pI (Or.inr ⟨by omega, by omega⟩), fun j n1 n2 n3 n4 n5 n6 => by rw [mp_I1, if_neg (by omega)], fun j _ => by rw [mp_I1, if_neg (by omega)], fun c' c1 c2 j hj => by rw [mp_I1, if_neg (fun z => hj z.2)]⟩
theorem mj_gm.n {n : Nat} {h : mm_H} {v : Int32} : mj_gm n h (mm_pI h 293 5 v) := ⟨mk_ch.pI (Or.inr ⟨by omega, by omega⟩), fun j n1 n2 n3 n4 n5 n6 => by rw [mp_I1, if_neg (by omega)], fun j hj => by rw [mp_I1, if_neg (fun z => hj z.2)], fun c' c1 c2 j hj => by rw [mp_I1, if_neg (by omega)]⟩
theorem mj_fs.gm {n : Nat} {h h' : mm_H} (k : mj_fs 297 n h h') : mj_gm n h h' := ⟨k.1.mono (fun c z => by omega), fun j n1 n2 n3 n4 n5 n6 => k.2.1 j n1 n2 n3 n4 n6, fun j _ => by rw [k.1.e1 (c := 293) (by decide)], fun c c1 c2 j hj => by
  by_cases e : c = 297
  · rw [e]; exact k.2.2 j hj
  · rw [k.1.e1 (by omega)]⟩
theorem mj_fsF.gm {n : Nat} {v : Int32} {h h' : mm_H} (k : mj_fsF v 297 n h h') : mj_gm n h h' := ⟨k.1.mono (fun c z => by omega), fun j n1 n2 n3 n4 n5 n6 => k.2.1 j n1 n2 n3 n4 n5 n6, fun j _ => by rw [k.1.e1 (c := 293) (by decide)], fun c c1 c2 j hj => by
  by_cases e : c = 297
  · rw [e]; exact k.2.2.1 j hj
  · rw [k.1.e1 (by omega)]⟩
abbrev mj_L := Nat → Nat → Nat
def mj_LX (v : mj_L) (c : Nat) (h : mm_H) : Prop := h.1 c 0 = Int32.ofNat (v 0 0) ∧ ∀ k, k < v 0 0 → h.1 (c + 1) k = Int32.ofNat (v 1 k) ∧ (¬ v 1 k = 3 → h.1 (c + 2) k = Int32.ofNat (v 2 k)) ∧ (v 1 k = 0 → h.1 (c + 3) k = Int32.ofNat (v 3 k)) ∧ (v 1 k ≤ 1 → h.1 (c + 4) k = Int32.ofNat (v 4 k))
def mj_LM (v : mj_L) (h : mm_H) : Prop := h.1 293 5 = Int32.ofNat (v 0 0) ∧ ∀ k, k < v 0 0 → h.1 294 (150 + k) = Int32.ofNat (v 1 k) ∧ (¬ v 1 k = 3 → h.1 295 (150 + k) = Int32.ofNat (v 2 k)) ∧ (v 1 k = 0 → h.1 296 (150 + k) = Int32.ofNat (v 3 k)) ∧ (v 1 k ≤ 1 → h.1 297 (150 + k) = Int32.ofNat (v 4 k))
def mj_LW (P S : Nat) (v : mj_L) : Prop := v 0 0 ≤ 30 ∧ ∀ k, k < v 0 0 → v 1 k ≤ 3 ∧ (¬ v 1 k = 3 → v 2 k < P) ∧ (v 1 k = 0 → v 3 k < P ∧ ¬ v 2 k = v 3 k ∧ v 4 k < S) ∧ (v 1 k = 1 → 0 < v 4 k ∧ v 4 k < 2 ^ S)
def mj_push (v : mj_L) (d w x y : Nat) : mj_L := fun i k => if i = 0 then v 0 0 + 1 else if k = v 0 0 then (if i = 1 then d else if i = 2 then w else if i = 3 then x else y) else v i k
theorem mj_push_0 {v : mj_L} {d w x y : Nat} : mj_push v d w x y 0 0 = v 0 0 + 1 := rfl
theorem mj_push_o {v : mj_L} {d w x y i k : Nat} (hi : ¬ i = 0) (hk : ¬ k = v 0 0) : mj_push v d w x y i k = v i k := by
  unfold mj_push; rw [if_neg hi, if_neg hk]
theorem mj_push_n {v : mj_L} {d w x y : Nat} : mj_push v d w x y 1 (v 0 0) = d ∧ mj_push v d w x y 2 (v 0 0) = w ∧ mj_push v d w x y 3 (v 0 0) = x ∧ mj_push v d w x y 4 (v 0 0) = y := by
  unfold mj_push
  refine ⟨?_, ?_, ?_, ?_⟩
  · rw [if_neg (by omega), if_pos rfl, if_pos rfl]
  · rw [if_neg (by omega), if_pos rfl, if_neg (by omega), if_pos rfl]
  · rw [if_neg (by omega), if_pos rfl, if_neg (by omega), if_neg (by omega), if_pos rfl]
  · rw [if_neg (by omega), if_pos rfl, if_neg (by omega), if_neg (by omega), if_neg (by omega)]
theorem mj_LW_push {P S d w x y : Nat} {v : mj_L} (h : mj_LW P S v) (n : v 0 0 < 30) (hd : d ≤ 3) (hw : ¬ d = 3 → w < P) (hx : d = 0 → x < P ∧ ¬ w = x ∧ y < S) (hy : d = 1 → 0 < y ∧ y < 2 ^ S) : mj_LW P S (mj_push v d w x y) := by
  refine ⟨by rw [mj_push_0]; omega, fun k hk => ?_⟩
  rw [mj_push_0] at hk
  by_cases e : k = v 0 0
  · obtain ⟨n1, n2, n3, n4⟩ := mj_push_n (v := v) (d := d) (w := w) (x := x) (y := y)
    rw [e, n1, n2, n3, n4]
    exact ⟨hd, hw, hx, hy⟩
  · rw [mj_push_o (by omega) e, mj_push_o (by omega) e, mj_push_o (by omega) e, mj_push_o (by omega) e]
    exact h.2 k (by omega)
theorem mj_LM_push {v : mj_L} {d w x y : Nat} {h h' : mm_H} (q : mj_LM v h) (g : mj_gm (150 + v 0 0) h h') (e0 : h'.1 293 5 = Int32.ofNat (v 0 0 + 1)) (e1 : h'.1 294 (150 + v 0 0) = Int32.ofNat d) (e2 : ¬ d = 3 → h'.1 295 (150 + v 0 0) = Int32.ofNat w) (e3 : d = 0 → h'.1 296 (150 + v 0 0) = Int32.ofNat x) (e4 : d ≤ 1 → h'.1 297 (150 + v 0 0) = Int32.ofNat y) : mj_LM (mj_push v d w x y) h' := by
  refine ⟨by rw [mj_push_0]; exact e0, fun k hk => ?_⟩
  rw [mj_push_0] at hk
  by_cases e : k = v 0 0
  · obtain ⟨n1, n2, n3, n4⟩ := mj_push_n (v := v) (d := d) (w := w) (x := x) (y := y)
    rw [e, n1, n2, n3, n4]
    exact ⟨e1, e2, e3, e4⟩
  · rw [mj_push_o (by omega) e, mj_push_o (by omega) e, mj_push_o (by omega) e, mj_push_o (by omega) e, g.2.2.2 294 (by omega) (by omega) _ (by omega), g.2.2.2 295 (by omega) (by omega) _ (by omega), g.2.2.2 296 (by omega) (by omega) _ (by omega), g.2.2.2 297 (by omega) (by omega) _ (by omega)]
    exact q.2 k (by omega)
theorem mj_LX.cr {D : Nat → Prop} {v : mj_L} {c : Nat} {h h' : mm_H} (q : mj_LX v c h) (k : mk_cr D h h') (hD : ∀ j, D j → j < c ∨ c + 4 < j) : mj_LX v c h' := by
  unfold mj_LX
  rw [k.e1 (c := c) (fun z => by have := hD _ z; omega), k.e1 (c := c + 1) (fun z => by have := hD _ z; omega), k.e1 (c := c + 2) (fun z => by have := hD _ z; omega), k.e1 (c := c + 3) (fun z => by have := hD _ z; omega), k.e1 (c := c + 4) (fun z => by have := hD _ z; omega)]
  exact q
theorem mj_t54 : mm_tg 54 = 5 ∧ mm_tg 47 = 5 := by decide +kernel
theorem mx_addLine {v : mj_L} {h : mm_H} (q : mj_LX v 54 h) (n : v 0 0 < 30) (d w x y : Int32) : mk_ok (f_Tk_addLine 54 d w x y h) (fun g => mk_ch (fun c => 54 ≤ c ∧ c ≤ 58) h g ∧ ∀ d' w' x' y' : Nat, d = Int32.ofNat d' → w = Int32.ofNat w' → x = Int32.ofNat x' → y = Int32.ofNat y' → mj_LX (mj_push v d' w' x' y') 54 g) := by
  have ix : mm_ix (Int32.ofNat (v 0 0)) 30 = some (v 0 0) := mn_ix n (by omega)
  unfold f_Tk_addLine
  have s0 : ∀ (h : mm_H) (c j : Nat) (z : Int32), ¬ c = 54 → (mm_pI h c j z).1 54 0 = h.1 54 0 := fun h c j z hc => by rw [mp_I1, if_neg (fun y => hc y.1.symm)]
  rw [if_pos mj_t54.1, q.1, if_neg (fun z => absurd ((mn_lle (b := 30) (show v 0 0 < 2147483648 by omega) (by decide)).mp z) (show ¬ 30 ≤ v 0 0 by omega)), mk_bs ix]
  simp only [mm_let]
  rw [s0 _ _ _ _ (by decide), q.1, mk_bs ix, s0 _ _ _ _ (by decide), s0 _ _ _ _ (by decide), q.1, mk_bs ix, s0 _ _ _ _ (by decide), s0 _ _ _ _ (by decide), s0 _ _ _ _ (by decide), q.1, mk_bs ix, s0 _ _ _ _ (by decide), s0 _ _ _ _ (by decide), s0 _ _ _ _ (by decide), s0 _ _ _ _ (by decide), q.1, show Int32.ofNat (v 0 0) + 1 = Int32.ofNat (v 0 0 + 1) from mn_addl 1 _]
  have p : ∀ {g : mm_H} {c j : Nat} {z : Int32}, 54 ≤ c ∧ c ≤ 58 → mk_ch (fun c => 54 ≤ c ∧ c ≤ 58) g (mm_pI g c j z) := fun hc => mk_ch.pI hc
  have tr : ∀ {h h1 h2 : mm_H}, mk_ch (fun c => 54 ≤ c ∧ c ≤ 58) h h1 → mk_ch (fun c => 54 ≤ c ∧ c ≤ 58) h1 h2 → mk_ch (fun c => 54 ≤ c ∧ c ≤ 58) h h2 := fun a b => a.tr b (fun _ q => q) (fun _ q => q)
  refine mk_ok.ret ⟨tr (tr (tr (tr (p (by omega)) (p (by omega))) (p (by omega))) (p (by omega))) (p (by omega)), fun d' w' x' y' e1 e2 e3 e4 => ⟨?_, fun k hk => ?_⟩⟩
  · rw [mp_I1, if_pos ⟨rfl, rfl⟩]; rfl
  · rw [mj_push_0] at hk
    have at1 : ∀ c, ¬ c = 0 → c ≤ 4 → (mm_pI (mm_pI (mm_pI (mm_pI (mm_pI h (54 + 1) (v 0 0) d) (54 + 2) (v 0 0) w) (54 + 3) (v 0 0) x) (54 + 4) (v 0 0) y) 54 0 (Int32.ofNat (v 0 0 + 1))).1 (54 + c) k = if k = v 0 0 then (if c = 1 then d else if c = 2 then w else if c = 3 then x else y) else h.1 (54 + c) k := by
      intro c c0 c4
      have : c = 1 ∨ c = 2 ∨ c = 3 ∨ c = 4 := by omega
      rw [mp_I1, if_neg (by omega), mp_I1, mp_I1, mp_I1, mp_I1]
      by_cases e : k = v 0 0
      · rw [if_pos e]
        rcases this with rfl | rfl | rfl | rfl
        · rw [if_neg (by omega), if_neg (by omega), if_neg (by omega), if_pos ⟨rfl, e⟩, if_pos rfl]
        · rw [if_neg (by omega), if_neg (by omega), if_pos ⟨rfl, e⟩, if_neg (by omega), if_pos rfl]
        · rw [if_neg (by omega), if_pos ⟨rfl, e⟩, if_neg (by omega), if_neg (by omega), if_pos rfl]
        · rw [if_pos ⟨rfl, e⟩, if_neg (by omega), if_neg (by omega), if_neg (by omega)]
      · rw [if_neg e, if_neg (fun z => e z.2), if_neg (fun z => e z.2), if_neg (fun z => e z.2), if_neg (fun z => e z.2)]
    rw [at1 1 (by omega) (by omega), at1 2 (by omega) (by omega), at1 3 (by omega) (by omega), at1 4 (by omega) (by omega)]
    by_cases e : k = v 0 0
    · obtain ⟨n1, n2, n3, n4⟩ := mj_push_n (v := v) (d := d') (w := w') (x := x') (y := y')
      rw [if_pos e, if_pos e, if_pos e, if_pos e, e, n1, n2, n3, n4, if_pos rfl, if_neg (by omega), if_pos rfl, if_neg (by omega), if_neg (by omega), if_pos rfl, if_neg (by omega), if_neg (by omega), if_neg (by omega), e1, e2, e3, e4]
      exact ⟨rfl, fun _ => rfl, fun _ => rfl, fun _ => rfl⟩
    · rw [if_neg e, if_neg e, if_neg e, if_neg e, mj_push_o (by omega) e, mj_push_o (by omega) e, mj_push_o (by omega) e, mj_push_o (by omega) e]
      exact q.2 k (by omega)
def mj_NAX (t P S : Nat) (nP nS : Nat → Nat → Nat) (h : mm_H) : Prop := mj_HP t P nP h ∧ mj_HS t S nS h
def mj_NAM (r P S : Nat) (nP nS : Nat → Nat → Nat) (h : mm_H) : Prop := mj_GP r P nP h ∧ mj_GS r S nS h
theorem mj_NAX.cr {D : Nat → Prop} {t P S : Nat} {nP nS : Nat → Nat → Nat} {h h' : mm_H} (q : mj_NAX t P S nP nS h) (k : mk_cr D h h') (hD : ¬ D t ∧ ¬ D (t + 1) ∧ ¬ D (t + 5)) : mj_NAX t P S nP nS h' := by
  unfold mj_NAX mj_HP mj_HS
  rw [k.e1 hD.1, k.e2 hD.2.1, k.e2 hD.2.2]
  exact q
theorem mj_NAM.ch {D : Nat → Prop} {r P S : Nat} {nP nS : Nat → Nat → Nat} {h h' : mm_H} (q : mj_NAM r P S nP nS h) (k : mk_ch D h h') (hD : ¬ D 263 ∧ ¬ D 264 ∧ ¬ D 265) : mj_NAM r P S nP nS h' := by
  unfold mj_NAM mj_GP mj_GS
  rw [k.e1 hD.1, k.e2 hD.2.1, k.e2 hD.2.2]
  exact q
theorem mj_NAX.gx {t P S : Nat} {nP nS : Nat → Nat → Nat} {h h' : mm_H} (q : mj_NAX t P S nP nS h) (ht : t = 79 ∨ t = 96) (k : mj_gx h h') : mj_NAX t P S nP nS h' := q.cr k.1 ⟨by omega, by omega, by omega⟩
theorem mj_NAM.gm {n r P S : Nat} {nP nS : Nat → Nat → Nat} {h h' : mm_H} (q : mj_NAM r P S nP nS h) (k : mj_gm n h h') : mj_NAM r P S nP nS h' := q.ch k.1 ⟨by omega, by omega, by omega⟩
/-- a line's end, both sides -/
theorem mj_close {s : mk_S} {b : Nat} {hX hM : mm_H} (hs : mk_sgs s) (TX : mk_TKX s b hX) (h9 : hX.1 33 9 = 0) (TM : mk_TKM s b hM) : mj_two (f_Ta_takeSign 59 hX) (f_M_closes hM) (fun a c => (∃ f, ¬ f = 0 ∧ a.1 = 0 ∧ c.1 = 0 ∧ mk_FX f hX a.2 ∧ mk_FM f hM c.2) ∨ (b < mk_ntk s b ∧ a.1 = 1 ∧ c.1 = 1 ∧ mk_NX1 s b hX a.2 ∧ mk_NM1 s b hM c.2)) := by
  have s1 := hs.1
  have bl := TX.1
  cases e : mk_iss s b 59
  · refine mj_two.of (mx_takeSign0 (c := 59) hs TX (by decide) h9 e) (mi_closes0 hs TM e) (fun a c ⟨a1, a2⟩ ⟨c1, c2⟩ => Or.inl ⟨_, mj_fv_nz (k := 1) (b := b) (by omega) (by omega) (by omega), a1, c1, a2, c2⟩)
  · refine mj_two.of (mx_takeSign1 (c := 59) hs TX (by decide) e) (mi_closes1 hs TM e) (fun a c ⟨a1, a2⟩ ⟨c1, c2⟩ => Or.inr ⟨?_, a1, c1, a2, c2⟩)
    have := mk_ntk_le (s := s) (b := b) bl
    have := mk_en_lt (mk_kd_3 (mk_iss_3 e).1)
    omega
