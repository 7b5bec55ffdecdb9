/-! plot: the reference's search, its levels -/
theorem mk_uT_s {V ok : Nat → Prop} {T : Nat → Nat → Prop} {x : Nat} (h : ok x) (s : Nat) : (mk_uT V ok T x s ∨ T x s) ↔ mk_uT V ok T (x + 1) s := by
  constructor
  · rintro ((h0 | ⟨z, h1, h2⟩) | h0)
    · exact Or.inl h0
    · exact Or.inr ⟨z, by omega, h2⟩
    · exact Or.inr ⟨x, by omega, h, h0⟩
  · rintro (h0 | ⟨z, h1, h2, h3⟩)
    · exact Or.inl (Or.inl h0)
    · by_cases e : z = x
      · rw [e] at h3; exact Or.inr h3
      · exact Or.inl (Or.inr ⟨z, by omega, h2, h3⟩)
def mk_V0 (s : Nat) : Prop := False ∨ s = 0
def mk_T1 (A : mk_A) (r : Nat → Nat) (p m y s : Nat) : Prop := s = 1 + y ∨ (2 ≤ m ∧ ∃ b, b < 60 ∧ mk_pok A (mk_tl A r p y) p b ∧ s = 61 + 60 * y + b)
theorem mi_lv2 {A : mk_A} {E : mk_E} {r : Nat → Nat} {p q f a b : Nat} {V : Nat → Prop} {h : mm_H} (hT : mk_T A) (hW : mk_W A r) (hM : mk_MT A E h) (hp : p < A 263 0) (hq : q < A 263 0) (ha : a < 60) (hb : b < 60) (ok1 : mk_pok A r p a) (ok2 : mk_pok A (mk_tl A r p a) p b) (hR : mk_MR (mk_tl A (mk_tl A r p a) p b) h) (s0 : h.1 308 0 = Int32.ofNat a) (s1 : h.1 308 1 = Int32.ofNat b) (hQ : mk_MQ A E r p q V h) (hV : ∀ c, V c → c < 61 + 60 * a + b) : mk_ok (f_M_plots_n (f + 1) (Int32.ofNat p) (Int32.ofNat q) (Int32.ofNat 1 + 1) (Int32.ofNat 2) h) (fun v => mk_Mp h v ∧ mk_MR (mk_tl A (mk_tl A r p a) p b) v ∧ (∀ j, j ≤ 1 → v.1 308 j = h.1 308 j) ∧ mk_MQ A E r p q (fun s => V s ∨ s = 61 + 60 * a + b) v) := by
  obtain ⟨c1, c2, c3, c4⟩ := mk_p2c (A := A) (r := r) (p := p) (a := a) hb
  have hW1 := mk_tl_W hT hW hp ok1
  have hW2 := mk_tl_W hT hW1 hp ok2
  have e3 : Int32.ofNat 1 + 1 = Int32.ofNat (mk_pm (61 + 60 * a + b)) := by rw [c2]; decide
  show mk_ok (f_M_plots_b (f_M_plots_n f) _ _ _ _ h) _
  unfold f_M_plots_b
  rw [e3]
  refine mi_visit (n := 61 + 60 * a + b) hT (by rw [c1]; exact hW2) hM (by rw [c1]; exact hR) hp hq hQ (by omega) (fun c hc => Or.inl (hV c hc)) (Or.inr (by rw [c3]; exact s0)) (Or.inr (by rw [c4]; exact s1)) (fun v z1 z2 z3 z4 => ?_)
  rw [if_pos (by rw [c2])]
  exact mk_ok.ret ⟨z1, fun j hj => by rw [z2]; exact hR j hj, fun j _ => by rw [z3], z4⟩
theorem mi_lv1 {A : mk_A} {E : mk_E} {r : Nat → Nat} {p q f a m : Nat} {h : mm_H} (hT : mk_T A) (hW : mk_W A r) (hM : mk_MT A E h) (hp : p < A 263 0) (hq : q < A 263 0) (ha : a < 60) (hm1 : 1 ≤ m) (hm2 : m ≤ 2) (ok1 : mk_pok A r p a) (hR : mk_MR (mk_tl A r p a) h) (s0 : h.1 308 0 = Int32.ofNat a) (hQ : mk_MQ A E r p q (mk_uT mk_V0 (mk_pok A r p) (mk_T1 A r p m) a) h) : mk_ok (f_M_plots_n (f + 1 + 1) (Int32.ofNat p) (Int32.ofNat q) (Int32.ofNat 0 + 1) (Int32.ofNat m) h) (fun v => mk_Mp h v ∧ mk_MR (mk_tl A r p a) v ∧ (∀ j, j ≤ 0 → v.1 308 j = h.1 308 j) ∧ mk_MQ A E r p q (mk_uT mk_V0 (mk_pok A r p) (mk_T1 A r p m) (a + 1)) v) := by
  obtain ⟨c1, c2, c3, c4⟩ := mk_p1 (A := A) (r := r) (p := p) ha
  have hW1 := mk_tl_W hT hW hp ok1
  have e3 : Int32.ofNat 0 + 1 = Int32.ofNat (mk_pm (1 + a)) := by rw [c2]; decide
  show mk_ok (f_M_plots_b (f_M_plots_n (f + 1)) _ _ _ _ h) _
  unfold f_M_plots_b
  rw [e3]
  have mem : ∀ c, mk_uT mk_V0 (mk_pok A r p) (mk_T1 A r p m) a c → c = 0 ∨ (∃ y, y < a ∧ c = 1 + y) ∨ (∃ y b, y < a ∧ b < 60 ∧ c = 61 + 60 * y + b) := fun c hc => by
    rcases hc with (z | z) | ⟨y, y1, _, y3 | ⟨_, b, y4, _, y5⟩⟩
    · exact absurd z id
    · exact Or.inl z
    · exact Or.inr (Or.inl ⟨y, y1, y3⟩)
    · exact Or.inr (Or.inr ⟨y, b, y1, y4, y5⟩)
  refine mi_visit (n := 1 + a) hT (by rw [c1]; exact hW1) hM (by rw [c1]; exact hR) hp hq hQ (by omega) (fun c hc => ?_) (Or.inr (by rw [c3]; exact s0)) (Or.inl (by rw [c2]; omega)) (fun v z1 z2 z3 z4 => ?_)
  · rw [c2]
    rcases mem c hc with z | ⟨y, y1, z⟩ | ⟨y, b, y1, y2, z⟩
    · exact Or.inl (by omega)
    · exact Or.inl (by omega)
    · right
      unfold mk_pm
      rw [if_neg (by omega), if_neg (by omega)]
      omega
  · have Rv : mk_MR (mk_tl A r p a) v := fun j hj => by rw [z2]; exact hR j hj
    by_cases m1 : m = 1
    · rw [if_pos (by rw [c2, m1])]
      refine mk_ok.ret ⟨z1, Rv, fun j _ => by rw [z3], z4.ext (fun s => ?_)⟩
      rw [← mk_uT_s ok1]
      constructor
      · rintro (h0 | h0)
        · exact Or.inl h0
        · exact Or.inr (Or.inl h0)
      · rintro (h0 | h0 | h0)
        · exact Or.inl h0
        · exact Or.inr h0
        · omega
    · have m2 : m = 2 := by omega
      subst m2
      rw [if_neg (fun z => by
        rw [c2] at z
        exact absurd z (by decide)), c2]
      refine mk_ok.cons (mi_plots_loop (d := 1) (T := fun y s => s = 61 + 60 * a + y) hT hW1 (hM.Mp z1) Rv hp (by omega) z4 (fun b h' hb ok2 y1 y2 y3 y4 y5 => ?_)) (fun w ⟨x1, x2, x3, x4⟩ => ?_)
      · have s0' : h'.1 308 0 = Int32.ofNat a := by rw [y4 0 (by omega), z3]; exact s0
        refine mk_ok.cons (mi_lv2 hT hW ((hM.Mp z1).Mp y1) hp hq ha hb ok1 ok2 y2 s0' y3 y5 (fun c hc => ?_)) (fun w ⟨x1, x2, x3, x4⟩ => ⟨x1, x2, x3, x4.ext (fun s => mk_uT_s (T := fun y s => s = 61 + 60 * a + y) ok2 s)⟩)
        rcases hc with (z | z) | ⟨y, w1, _, w3⟩
        · rcases mem c z with z | ⟨y, w1, z⟩ | ⟨y, b', w1, w2, z⟩ <;> omega
        · omega
        · omega
      · refine ⟨z1.tr x1, x2, fun j hj => by rw [x3 j (by omega), z3], x4.ext (fun s => ?_)⟩
        rw [← mk_uT_s ok1]
        constructor
        · rintro ((h0 | h0) | ⟨y, h1, h2, h3⟩)
          · exact Or.inl h0
          · exact Or.inr (Or.inl h0)
          · exact Or.inr (Or.inr ⟨by omega, y, h1, h2, h3⟩)
        · rintro (h0 | h0 | ⟨_, b, h1, h2, h3⟩)
          · exact Or.inl (Or.inl h0)
          · exact Or.inl (Or.inr h0)
          · exact Or.inr ⟨b, h1, h2, h3⟩
theorem mi_plots {A : mk_A} {E : mk_E} {r : Nat → Nat} {p q m : Nat} {h : mm_H} (hT : mk_T A) (hW : mk_W A r) (hM : mk_MT A E h) (hp : p < A 263 0) (hq : q < A 263 0) (hm2 : m ≤ 2) (hR : mk_MR r h) (s61 : h.1 261 61 = -1) : mk_ok (f_M_plots (Int32.ofNat p) (Int32.ofNat q) 0 (Int32.ofNat m) h) (fun v => mk_Mp h v ∧ mk_MR r v ∧ mk_MQ A E r p q (mk_pv A r p m) v) := by
  have hQ : mk_MQ A E r p q (fun _ => False) h := ⟨0, ⟨fun _ _ z => z, fun z => absurd rfl z⟩, ⟨fun _ => s61, fun z => absurd rfl z⟩, fun _ z => absurd z id⟩
  show mk_ok (f_M_plots_b (f_M_plots_n 3) _ _ (Int32.ofNat (mk_pm 0)) _ h) _
  unfold f_M_plots_b
  refine mi_visit (n := 0) hT hW hM hR hp hq hQ (by omega) (fun c hc => absurd hc id) (Or.inl rfl) (Or.inl (by decide)) (fun v z1 z2 z3 z4 => ?_)
  have Rv : mk_MR r v := fun j hj => by rw [z2]; exact hR j hj
  by_cases m0 : m = 0
  · subst m0
    rw [if_pos (show Int32.ofNat (mk_pm 0) = Int32.ofNat 0 from rfl)]
    refine mk_ok.ret ⟨z1, Rv, z4.ext (fun s => ?_)⟩
    constructor
    · rintro (h0 | h0)
      · exact absurd h0 id
      · exact Or.inl h0
    · rintro (h0 | h0 | h0)
      · exact Or.inr h0
      · omega
      · omega
  · have ne : ¬ Int32.ofNat (mk_pm 0) = Int32.ofNat m := fun z => m0 ((mn_eq (by unfold mk_pm; rw [if_pos rfl]; omega) (by omega)).mp z).symm
    rw [if_neg ne]
    refine mk_ok.cons (mi_plots_loop (d := 0) (T := mk_T1 A r p m) (V := mk_V0) hT hW (hM.Mp z1) Rv hp (by omega) z4 (fun a h' ha ok1 y1 y2 y3 y4 y5 => ?_)) (fun w ⟨x1, x2, x3, x4⟩ => ?_)
    · exact mi_lv1 hT hW ((hM.Mp z1).Mp y1) hp hq ha (by omega) hm2 ok1 y2 y3 y5
    · refine ⟨z1.tr x1, x2, x4.ext (fun s => ?_)⟩
      constructor
      · rintro ((h0 | h0) | ⟨y, h1, h2, h3 | ⟨h3, b, h4, h5, h6⟩⟩)
        · exact absurd h0 id
        · exact Or.inl h0
        · rw [h3]; exact (mk_pv1 h1 (by omega)).mpr h2
        · rw [h6]; exact (mk_pv2 h1 h4 h3).mpr ⟨h2, h5⟩
      · rintro (h0 | ⟨h1, h2, h3, h4⟩ | ⟨h1, h2, h3, h4, h5⟩)
        · exact Or.inl (Or.inr h0)
        · exact Or.inr ⟨s - 1, by omega, h4, Or.inl (by omega)⟩
        · exact Or.inr ⟨(s - 61) / 60, by omega, h4, Or.inr ⟨h3, (s - 61) % 60, by omega, h5, by omega⟩⟩
