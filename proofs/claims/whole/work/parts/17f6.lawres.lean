/-! the law of worth read, the class beside the reference's loop -/
def mv_res (d : Nat) (hX hM : mm_H) (x : mv_M) (oX : Option (Int32 × mm_H)) (Q : mm_H → mv_M → Prop) : Prop := ∃ a, oX = some a ∧ ((a.1 = 0 ∧ ∃ f c, ¬ f = 0 ∧ mm_while mv_R x = some (0, c) ∧ a.2.1 33 9 = f ∧ c.1 261 9 = f ∧ mv_kx d 0 hX a.2 ∧ mv_ky 0 0 0 hM c) ∨ (a.1 = 1 ∧ ∃ y, mm_while mv_R x = mm_while mv_R y ∧ Q a.2 y))
section RS
variable {d : Nat} {hX hM : mm_H} {x y : mv_M} {oX : Option (Int32 × mm_H)} {Q R : mm_H → mv_M → Prop}
theorem mv_res.m (e : mm_while mv_R x = mm_while mv_R y) (h : mv_res d hX hM y oX Q) : mv_res d hX hM x oX Q := by
  obtain ⟨a, e1, q⟩ := h
  refine ⟨a, e1, ?_⟩
  rcases q with ⟨a0, f, c, q1, q2, q3⟩ | ⟨a1, z, q1, q2⟩
  · exact Or.inl ⟨a0, f, c, q1, e.trans q2, q3⟩
  · exact Or.inr ⟨a1, z, e.trans q1, q2⟩
theorem mv_res.bind {k : Int32 × mm_H → Option (Int32 × mm_H)} (h : mv_res d hX hM x oX Q) (hk : ∀ g y, Q g y → mv_res d hX hM y (k (1, g)) R) : mv_res d hX hM x (oX.bind fun v => if v.1 = 0 then (some (0, v.2)) else k v) R := by
  obtain ⟨a, rfl, q⟩ := h
  rcases q with ⟨a0, f, c, q1, q2, q3⟩ | ⟨a1, z, q1, q2⟩
  · refine ⟨(0, a.2), ?_, Or.inl ⟨rfl, f, c, q1, q2, q3⟩⟩
    show (if a.1 = 0 then some (0, a.2) else k a) = _
    rw [if_pos a0]
  · have e : ((some a).bind fun v => if v.1 = 0 then (some (0, v.2)) else k v) = k (1, a.2) := by
      show (if a.1 = 0 then some (0, a.2) else k a) = _
      rw [if_neg (by rw [a1]; decide)]
      obtain ⟨b1, b2⟩ := a
      obtain rfl : b1 = 1 := a1
      rfl
    rw [e]
    exact (hk a.2 z q2).m q1
theorem mv_res.up {gX gM : mm_H} (h : mv_res d gX gM x oX Q) (kx : mv_kx d 0 hX gX) (ky : mv_ky 0 0 0 hM gM) : mv_res d hX hM x oX Q := by
  obtain ⟨a, e1, q⟩ := h
  refine ⟨a, e1, ?_⟩
  rcases q with ⟨a0, f, c, q1, q2, q3, q4, q5, q6⟩ | q
  · exact Or.inl ⟨a0, f, c, q1, q2, q3, q4, kx.tr q5, ky.tr q6⟩
  · exact Or.inr q
theorem mv_res.ret {g : mm_H} (q : Q g x) : mv_res d hX hM x (some (1, g)) Q := ⟨_, rfl, Or.inr ⟨rfl, x, rfl, q⟩⟩
theorem mv_res.cons (h : mv_res d hX hM x oX Q) (hk : ∀ g y, Q g y → R g y) : mv_res d hX hM x oX R := by
  obtain ⟨a, e1, q⟩ := h
  refine ⟨a, e1, ?_⟩
  rcases q with q | ⟨a1, z, q1, q2⟩
  · exact Or.inl q
  · exact Or.inr ⟨a1, z, q1, hk _ _ q2⟩
theorem mv_res.xs {α : Type} {o : Option α} {k : α → Option (Int32 × mm_H)} {v : α} (e : o = some v) (h : mv_res d hX hM x (k v) Q) : mv_res d hX hM x (o.bind k) Q := by
  rw [e]; exact h
theorem mv_res.xl {α : Type} {e : α} {k : α → Option (Int32 × mm_H)} (h : mv_res d hX hM x (k e) Q) : mv_res d hX hM x (mm_let e k) Q := h
/-- both fail at the token at b -/
theorem mv_res.ff {s : mk_S} {b k : Nat} {c : mm_H} {v : Int32 × mm_H} (hd : 33 < d) (hb : b ≤ 1000) (hk : 0 < k ∧ k < 16) (eX : oX = some v) (v1 : v.1 = 0) (v2 : mk_FX (mk_fv k b) hX v.2) (eM : mm_while mv_R x = some (0, c)) (c2 : mk_FM (mk_fv k b) hM c) : mv_res d hX hM x oX Q := ⟨v, eX, Or.inl ⟨v1, mk_fv k b, c, mj_fv_nz hk.1 hk.2 hb, eM, v2.2.2, c2.2.2, v2.kx hd, c2.ky⟩⟩
end RS
def mv_Q (Sem : List Int32 → List Int32 → Prop) (Post : Nat → mm_H → Prop) (s : mk_S) (d b n m K1 K2 kk : Nat) (hX hM g : mm_H) (y : mv_M) : Prop := ∃ (b' : Nat) (P C : List Int32) (h' : mm_H), b < b' ∧ y = (Int32.ofNat kk, 0, h') ∧ mv_Z s d b' (n + P.length) (m + C.length) g h' ∧ P.length + b ≤ b' ∧ C.length + b ≤ b' ∧ 0 < P.length ∧ 0 < C.length ∧ mv_kx d n hX g ∧ mv_ky K1 K2 m hM h' ∧ mv_at (g.1 (d + 15)) n P ∧ mv_at (h'.1 280) (1000 + m) C ∧ Sem P C ∧ Post b' h'
def mv_SP (s : mk_S) (d k K2 : Nat) (Pre : mm_H → Prop) (Sem : List Int32 → List Int32 → Prop) (Post : Nat → mm_H → Prop) (B : mm_H → Option (Int32 × mm_H)) : Prop := ∀ b n m hX hM, mv_Z s d b n m hX hM → mv_po (hM.1 281) k = k → Pre hM → mv_res d hX hM (Int32.ofNat k, 1, hM) (B hX) (mv_Q Sem Post s d b n m (k + 1) K2 k hX hM)
theorem mv_Z.put {s : mk_S} {d b n m : Nat} {y : Int32} {hX hM : mm_H} (hs : mk_sgs s) (hd : d = 79 ∨ d = 96) (q : mv_Z s d b n m hX hM) (hn : n < b) : ∃ g, f_La_put (d + 14) y hX = some g ∧ mv_Z s d b (n + 1) m g hM ∧ mv_kx d n hX g ∧ g.1 (d + 15) n = y := by
  obtain ⟨z1, z2, z3, z4, z5, z6, z7⟩ := q
  have b1 := z1.1
  have s1 := hs.1
  refine ⟨_, mx_put (mk_tt hd).2 z4 (by omega), ⟨(z1.cell ⟨by omega, by omega⟩).cell ⟨by omega, by omega⟩, ?_, z3, ?_, by omega, z6, z7⟩, ⟨mk_cr.of ((mk_ch.pI (D := fun c => c = 33 ∨ c = d + 14 ∨ c = d + 15) (Or.inr (Or.inr rfl))).tr (mk_ch.pI (D := fun c => c = 33 ∨ c = d + 14 ∨ c = d + 15) (Or.inr (Or.inl rfl))) (fun _ z => z) (fun _ z => z)), ?_, fun j hj => ?_⟩, ?_⟩
  · rw [mp_I1, if_neg (by omega), mp_I1, if_neg (by omega)]; exact z2
  · rw [mp_I1, if_pos ⟨rfl, rfl⟩]
  · rw [mp_I1, if_neg (by omega), mp_I1, if_neg (by omega)]
  · rw [mp_I1, if_neg (by omega), mp_I1, if_neg (by omega)]
  · rw [mp_I1, if_neg (by omega), mp_I1, if_pos ⟨rfl, rfl⟩]
theorem mv_Z.nx {s : mk_S} {d b n m K1 K2 : Nat} {c : Int32} {hX hM g h' : mm_H} (hd : d = 79 ∨ d = 96) (q : mv_Z s d b n m hX hM) (hb : b < s.1) (x : mk_NX1 s b hX g) (y : mv_MS s b m K1 K2 c hM h') : b < mk_ntk s b ∧ mv_Z s d (mk_ntk s b) n (m + 1) g h' := by
  obtain ⟨z1, z2, z3, z4, z5, z6, z7⟩ := q
  have l1 := mk_en_lt hb
  have l2 := (mk_ntk_le (s := s) (b := b) z1.1).1
  refine ⟨by omega, x.2, x.1.2.2.trans z2, y.1, ?_, by omega, y.2.1, by omega⟩
  rw [x.1.1.e1 (c := d + 14) (by omega)]; exact z4
theorem mv_MS.ky' {s : mk_S} {b m K1 K2 K1' K2' : Nat} {c : Int32} {h h' : mm_H} (q : mv_MS s b m K1 K2 c h h') (h1 : K1' ≤ K1) (h2 : K2' ≤ K2) : mv_MS s b m K1' K2' c h h' := ⟨q.1, q.2.1, q.2.2.1, q.2.2.2.dn h1 h2 (Nat.le_refl _)⟩
section LP
variable {s : mk_S} {d k K2 : Nat} {stepX : (Int32 × mm_H) → Option ((Int32 × mm_H) ⊕ (Int32 × mm_H))} {Pre : mm_H → Prop} {SemA SemB : List Int32 → List Int32 → Prop} {Post : Nat → mm_H → Prop} {T : Nat → Prop} {B : mm_H → Option (Int32 × mm_H)} {yc : Nat → Int32}
/-- a chain: a first one, then as long as the token bids it a step and another one -/
theorem mv_chain (hs : mk_sgs s) (hd : d = 79 ∨ d = 96) (SB : mv_SP s d k K2 Pre SemB Post B)
    (one : ∀ P C, SemB P C → SemA P C)
    (E : ∀ b g i, i < 1000 → mk_TKX s b g → ¬ T b → stepX (Int32.ofNat i, g) = some (.inr (1, g)))
    (Cc : ∀ b g i, i < 1000 → mk_TKX s b g → T b → ∃ g2, mk_NX1 s b g g2 ∧ ∀ a, B g2 = some a → (a.1 = 0 → stepX (Int32.ofNat i, g) = some (.inr (0, a.2))) ∧ (a.1 = 1 → ∀ w, f_La_put (d + 14) (yc b) a.2 = some w → stepX (Int32.ofNat i, g) = some (.inl (Int32.ofNat (i + 1), w))))
    (Mm : ∀ b m h, mk_TKM s b h → T b → Post b h → h.1 261 28 = Int32.ofNat (1000 + m) → m < 1000 → ∃ h' c, mm_while mv_R (Int32.ofNat k, 0, h) = mm_while mv_R (Int32.ofNat k, 1, h') ∧ mv_MS s b m (k + 1) K2 c h h' ∧ Pre h' ∧ ∀ P C P2 C2, SemA P C → SemB P2 C2 → SemA (P ++ (P2 ++ [yc b])) (C ++ (c :: C2)))
    (Tb : ∀ b, T b → b < s.1) :
    mv_SP s d k K2 Pre SemA (fun b h => ¬ T b ∧ Post b h) (fun hX => (B hX).bind fun v => if v.1 = 0 then (some (0, v.2)) else mm_while stepX (0, v.2)) := by
  intro b n m hX hM Z po pre
  have s1 := hs.1
  have key : ∀ (t b1 : Nat) (P C : List Int32) (i : Nat) (g h1 : mm_H), t = s.1 - b1 → i < b1 → b < b1 → mv_po (h1.1 281) k = k → mv_Z s d b1 (n + P.length) (m + C.length) g h1 → P.length + b ≤ b1 → C.length + b ≤ b1 → 0 < P.length → 0 < C.length → mv_kx d n hX g → mv_ky (k + 1) K2 m hM h1 → mv_at (g.1 (d + 15)) n P → mv_at (h1.1 280) (1000 + m) C → SemA P C → Post b1 h1 → mv_res d hX hM (Int32.ofNat k, 0, h1) (mm_while stepX (Int32.ofNat i, g)) (mv_Q SemA (fun b h => ¬ T b ∧ Post b h) s d b n m (k + 1) K2 k hX hM) := by
    intro t
    induction t using Nat.strongRecOn with
    | _ t ih =>
      intro b1 P C i g h1 et ib bb po1 Z1 lP lC pP pC kx ky aP aC sem post
      have bl := Z1.1.1
      by_cases c : T b1
      · have bs := Tb b1 c
        obtain ⟨g2, x, CC⟩ := Cc b1 g i (by omega) Z1.1 c
        have z7 := Z1.2.2.2.2.2.2
        obtain ⟨h2, cc, eM, MS, pre2, semf⟩ := Mm b1 (m + C.length) h1 Z1.2.2.1 c post Z1.2.2.2.2.2.1 (by omega)
        obtain ⟨lt, Z2⟩ := Z1.nx hd bs x MS
        generalize mk_ntk s b1 = b2 at *
        have po2 : mv_po (h2.1 281) k = k := (mv_po.cg k (fun j hj => MS.2.2.2.2.2.2.1 j hj)).trans po1
        obtain ⟨a, ea, ra⟩ := SB b2 (n + P.length) (m + C.length + 1) g2 h2 Z2 po2 pre2
        obtain ⟨cf, ck⟩ := CC a ea
        have kx2 : mv_kx d (n + P.length) g g2 := x.1.kx (by omega)
        rcases ra with ⟨a0, f, cM, q1, q2, q3, q4, q5, q6⟩ | ⟨a1, y, q1, b3, P2, C2, h3, lt3, ey, Z3, lP2, lC2, pP2, pC2, kx3, ky3, aP2, aC2, sem2, post3⟩
        · refine ⟨(0, a.2), mm_while_inr (cf a0), Or.inl ⟨rfl, f, cM, q1, eM.trans q2, q3, q4, ((kx.dn (Nat.zero_le _)).tr (kx2.dn (Nat.zero_le _))).tr q5, ((ky.dn (Nat.zero_le _) (Nat.zero_le _) (Nat.zero_le _)).tr (MS.2.2.2.dn (Nat.zero_le _) (Nat.zero_le _) (Nat.zero_le _))).tr q6⟩⟩
        · rw [ey] at q1
          have n1 := Z1.2.2.2.2.1
          obtain ⟨g4, e4, Z4, kx4, v4⟩ := Z3.put (y := yc b1) hs hd (by omega)
          have F : mv_kx d (n + P.length) g g4 := (kx2.tr kx3).tr (kx4.dn (by omega))
          have FM : mv_ky (k + 1) K2 (m + C.length) h1 h3 := MS.2.2.2.tr (ky3.dn (Nat.le_refl _) (Nat.le_refl _) (by omega))
          have lenP : (P ++ (P2 ++ [yc b1])).length = P.length + P2.length + 1 := by
            rw [List.length_append, List.length_append, List.length_singleton]; omega
          have lenC : (C ++ (cc :: C2)).length = C.length + 1 + C2.length := by
            rw [List.length_append, List.length_cons]; omega
          have r := ih (s.1 - b3) (by omega) b3 (P ++ (P2 ++ [yc b1])) (C ++ (cc :: C2)) (i + 1) g4 h3 rfl (by omega) (by omega) ((mv_po.cg k (fun j hj => FM.2.2.2.1 j hj)).trans po1) (by
            rw [lenP, lenC, show n + (P.length + P2.length + 1) = n + P.length + P2.length + 1 by omega, show m + (C.length + 1 + C2.length) = m + C.length + 1 + C2.length by omega]
            exact Z4) (by rw [lenP]; omega) (by rw [lenC]; omega) (by rw [lenP]; omega) (by rw [lenC]; omega) (kx.tr (F.dn (by omega))) (ky.tr (FM.dn (Nat.le_refl _) (Nat.le_refl _) (by omega))) ?_ ?_ (semf P C P2 C2 sem sem2) post3
          · refine mv_res.m (eM.trans q1) ?_
            obtain ⟨a', e', r'⟩ := r
            exact ⟨a', (mm_while_inl (ck a1 g4 e4)).trans e', r'⟩
          · refine (aP.cg (fun j j1 j2 => F.2.2 j (by omega))).app ((aP2.cg (fun j j1 j2 => kx4.2.2 j (by omega))).app (mv_at.one v4))
          · refine (aC.cg (fun j j1 j2 => FM.2.2.1 j (by omega))).app ?_
            have o : mv_at (h3.1 280) (1000 + m + C.length) [cc] := mv_at.one (by
              rw [show 1000 + m + C.length = 1000 + (m + C.length) by omega, ky3.2.2.1 _ (by omega)]
              exact MS.2.2.1)
            refine o.app (Q := C2) ?_
            rw [List.length_singleton, show 1000 + m + C.length + 1 = 1000 + (m + C.length + 1) by omega]
            exact aC2
      · exact ⟨(1, g), mm_while_inr (E b1 g i (by omega) Z1.1 c), Or.inr ⟨rfl, _, rfl, b1, P, C, h1, bb, rfl, Z1, lP, lC, pP, pC, kx, ky, aP, aC, sem, c, post⟩⟩
  refine mv_res.bind (SB b n m hX hM Z po pre) (fun g y q => ?_)
  obtain ⟨b1, P, C, h1, bb, rfl, Z1, lP, lC, pP, pC, kx, ky, aP, aC, sem, post⟩ := q
  exact key _ b1 P C 0 g h1 rfl (by omega) bb ((mv_po.cg k (fun j hj => ky.2.2.2.1 j hj)).trans po) Z1 lP lC pP pC kx ky aP aC (one P C sem) post
end LP
