/-! WHAT THE METHODS DO, AS FUNCTIONS: the words in which they are written, and their rules -/
def mm_ix (i : Int32) (n : Nat) : Option Nat := if 0 ≤ i ∧ i.toNatClampNeg < n then some i.toNatClampNeg else none
def mm_nzI (y : Int32) : Option Unit := if y = 0 then none else some ()
def mm_nzL (y : Int64) : Option Unit := if y = 0 then none else some ()
def mm_chr (x : Int32) : Option Unit := if 0 ≤ x ∧ x ≤ 65535 then some () else none
def mm_bo (x : Int32) : Option Int32 := if x = 0 ∨ x = 1 then some x else none
def mm_let {α β : Type} (e : α) (k : α → Option β) : Option β := k e
def mm_gT (h : mm_H) (k : Nat) : Option Nat := match h.2.2 32 k with
  | some r => if mm_tg r = 7 then some r else none
  | none => none
def mm_okW (w : Option Nat) : Bool := match w with
  | some j => decide (j < 28)
  | none => true
def mm_gW (h : mm_H) : Option (Option Nat) := if mm_okW (h.2.2 33 7) = true then some (h.2.2 33 7) else none
def mm_loopN {σ ρ : Type} (step : σ → Option (σ ⊕ ρ)) : Nat → σ → Option ρ
  | 0, _ => none
  | n + 1, s => (step s).bind fun x => Sum.elim (mm_loopN step n) some x
noncomputable def mm_while {σ ρ : Type} (step : σ → Option (σ ⊕ ρ)) (s : σ) : Option ρ :=
  @dite (Option ρ) (∃ r n, mm_loopN step n s = some r) (Classical.propDecidable _) (fun h => some (Classical.choose h)) (fun _ => none)
theorem mm_loopN_mono {σ ρ : Type} {step : σ → Option (σ ⊕ ρ)} {r : ρ} : ∀ (n : Nat) (s : σ), mm_loopN step n s = some r → ∀ m, n ≤ m → mm_loopN step m s = some r := by
  intro n
  induction n with
  | zero => intro s h; cases h
  | succ n ih =>
    intro s h m hm
    obtain ⟨m, rfl⟩ : ∃ k, m = k + 1 := ⟨m - 1, by omega⟩
    rw [mm_loopN] at h ⊢
    cases hs : step s with
    | none => rw [hs] at h; cases h
    | some x =>
      rw [hs] at h
      cases x with
      | inl s' => exact ih s' h m (by omega)
      | inr w => exact h
theorem mm_while_of {σ ρ : Type} {step : σ → Option (σ ⊕ ρ)} {n : Nat} {s : σ} {r : ρ} (h : mm_loopN step n s = some r) : mm_while step s = some r := by
  have hex : ∃ r n, mm_loopN step n s = some r := ⟨r, n, h⟩
  unfold mm_while
  rw [dif_pos hex]
  obtain ⟨m, hm⟩ := Classical.choose_spec hex
  have h1 := mm_loopN_mono n s h (n + m) (by omega)
  have h2 := mm_loopN_mono m s hm (n + m) (by omega)
  rw [h1] at h2
  exact h2.symm
theorem mm_while_to {σ ρ : Type} {step : σ → Option (σ ⊕ ρ)} {s : σ} {r : ρ} (h : mm_while step s = some r) : ∃ n, mm_loopN step n s = some r := by
  unfold mm_while at h
  by_cases hex : ∃ r n, mm_loopN step n s = some r
  · rw [dif_pos hex] at h
    cases h
    exact Classical.choose_spec hex
  · rw [dif_neg hex] at h
    cases h
theorem mm_while_inl {σ ρ : Type} {step : σ → Option (σ ⊕ ρ)} {s s' : σ} (h : step s = some (.inl s')) : mm_while step s = mm_while step s' := by
  cases hw : mm_while step s' with
  | some r =>
    obtain ⟨n, hn⟩ := mm_while_to hw
    exact mm_while_of (n := n + 1) (by rw [mm_loopN, h]; exact hn)
  | none =>
    cases hv : mm_while step s with
    | none => rfl
    | some r =>
      obtain ⟨n, hn⟩ := mm_while_to hv
      cases n with
      | zero => cases hn
      | succ n =>
        rw [mm_loopN, h] at hn
        have := mm_while_of (n := n) (s := s') hn
        rw [hw] at this
        cases this
theorem mm_while_inr {σ ρ : Type} {step : σ → Option (σ ⊕ ρ)} {s : σ} {r : ρ} (h : step s = some (.inr r)) : mm_while step s = some r :=
  mm_while_of (n := 1) (by rw [mm_loopN, h]; rfl)
/-- the usual loop: n rounds, then the end -/
theorem mm_while_for {σ ρ : Type} {step : σ → Option (σ ⊕ ρ)} (g : Nat → σ) (n : Nat) {r : ρ} (hs : ∀ i, i < n → step (g i) = some (.inl (g (i + 1)))) (he : step (g n) = some (.inr r)) : mm_while step (g 0) = some r := by
  have key : ∀ k, k ≤ n → mm_while step (g (n - k)) = some r := by
    intro k
    induction k with
    | zero => intro _; exact mm_while_inr he
    | succ k ih =>
      intro hk
      have := hs (n - (k + 1)) (by omega)
      rw [mm_while_inl this, show n - (k + 1) + 1 = n - k by omega]
      exact ih (by omega)
  have := key n (Nat.le_refl _)
  rwa [Nat.sub_self] at this
def mm_wx {σ ρ : Type} (P : σ → Prop) (v : ρ) (x : σ ⊕ ρ) : Prop := Sum.rec (motive := fun _ => Prop) P (fun w => w = v) x
theorem mm_while_ind {σ ρ : Type} {step : σ → Option (σ ⊕ ρ)} {v : ρ} {s : σ} (P : σ → Prop) (e : mm_while step s = some v) (H : ∀ s x, step s = some x → mm_wx P v x → P s) : P s := by
  obtain ⟨n, hn⟩ := mm_while_to e
  revert s
  induction n with
  | zero => intro s _ h; cases h
  | succ n ih =>
    intro s _ h
    rw [mm_loopN] at h
    cases hs : step s with
    | none => rw [hs] at h; cases h
    | some x =>
      rw [hs] at h
      refine H s x hs ?_
      cases x with
      | inl s' => exact ih (mm_while_of h) h
      | inr w => cases h; rfl
theorem mm_bind {α β : Type} {o : Option α} {k : α → Option β} {r : β} (h : o.bind k = some r) : ∃ v, o = some v ∧ k v = some r := by
  cases o with
  | none => cases h
  | some v => exact ⟨v, rfl, h⟩
theorem mm_letE {α β : Type} {e : α} {k : α → Option β} {r : β} (h : mm_let e k = some r) : ∃ v, v = e ∧ k v = some r := ⟨e, rfl, h⟩
def mm_jp {σ β : Type} (k : σ → Option β) (b : (σ → Option β) → Option β) : Option β := b k
theorem mm_jpE {σ β : Type} {k : σ → Option β} {b : (σ → Option β) → Option β} {r : β} (h : mm_jp k b = some r) : ∃ q, q = k ∧ b q = some r := ⟨k, rfl, h⟩
theorem mm_wxR {σ ρ : Type} {P : σ → Prop} {v w : ρ} (h : mm_wx P v (Sum.inr w)) : some w = some v := congrArg some h
theorem mm_wxL {σ ρ : Type} {P : σ → Prop} {v : ρ} {s : σ} (h : mm_wx P v (Sum.inl s)) : P s := h
def mm_cpI (h : mm_H) (a b n : Nat) : mm_H := (fun c j => if c = b ∧ j < n then h.1 a j else h.1 c j, h.2.1, h.2.2)
def mm_cpL (h : mm_H) (a b n : Nat) : mm_H := (h.1, fun c j => if c = b ∧ j < n then h.2.1 a j else h.2.1 c j, h.2.2)
theorem mm_ix_lt {i : Int32} {n k : Nat} (h : mm_ix i n = some k) : k < n := by
  unfold mm_ix at h
  split at h
  · rename_i q; cases h; exact q.2
  · cases h
theorem mm_lays_by (t : Nat) (ix : List Nat) (h : ((u_ws (mm_cl.getD t (RX0, TX0, 0)).1 (mm_cl.getD t (RX0, TX0, 0)).2.1 (mm_cl.getD t (RX0, TX0, 0)).2.2).length == ix.length && ((u_ws (mm_cl.getD t (RX0, TX0, 0)).1 (mm_cl.getD t (RX0, TX0, 0)).2.1 (mm_cl.getD t (RX0, TX0, 0)).2.2).zip ix).all (fun q => decide (lw_tbl[q.2]? = some q.1) && goodWord q.1)) = true) : mm_lays t := by
  intro w hw
  obtain ⟨k, hk⟩ := List.mem_iff_getElem?.mp hw
  rw [Bool.and_eq_true, List.all_eq_true] at h
  have hl := beq_iff_eq.mp h.1
  have hk2 := (List.getElem?_eq_some_iff.mp hk).1
  rw [hl] at hk2
  have hz := h.2 (w, ix[k]) (List.mem_iff_getElem?.mpr ⟨k, by rw [List.getElem?_zip_eq_some]; exact ⟨hk, List.getElem?_eq_getElem hk2⟩⟩)
  rw [Bool.and_eq_true, decide_eq_true_eq] at hz
  exact mm_gw_in (List.mem_of_getElem? hz.1) hz.2
theorem mm_nw_in {w : Cond} (hg : (match w with | .methodLinkNest .. => true | .fieldLinkNest .. => true | _ => false) = true) (h : w ∈ lw_tbl) : w ∈ mm_nw := List.mem_filter.mpr ⟨h, hg⟩
theorem mm_ifE {c : Prop} [Decidable c] {β : Type} {a b : Option β} {r : β} (h : (if c then a else b) = some r) : (c → a = some r) ∧ (¬ c → b = some r) := ⟨fun q => by rwa [if_pos q] at h, fun q => by rwa [if_neg q] at h⟩
theorem mm_chkE {c : Prop} [Decidable c] {β : Type} {a : Option β} {r : β} (h : (if c then a else none) = some r) : c ∧ a = some r := by
  by_cases q : c
  · rw [if_pos q] at h; exact ⟨q, h⟩
  · rw [if_neg q] at h; cases h
theorem mm_ixE {i : Int32} {n k : Nat} (h : mm_ix i n = some k) : vp_in i n ∧ i.toNatClampNeg = k := by
  obtain ⟨⟨h1, h2⟩, h3⟩ := mm_chkE h
  refine ⟨fun q => ?_, Option.some.inj h3⟩
  rcases q with q | q
  · exact absurd h1 (Int32.not_le.mpr q)
  · omega
theorem mm_nzIE {y : Int32} {u : Unit} (h : mm_nzI y = some u) : ¬ y = 0 := by
  intro q
  unfold mm_nzI at h
  rw [if_pos q] at h
  cases h
theorem mm_nzLE {y : Int64} {u : Unit} (h : mm_nzL y = some u) : ¬ y = 0 := by
  intro q
  unfold mm_nzL at h
  rw [if_pos q] at h
  cases h
theorem mm_boE {x y : Int32} (h : mm_bo x = some y) : (y = 0 ∨ y = 1) ∧ y = x := by
  obtain ⟨h1, h2⟩ := mm_chkE h
  cases h2
  exact ⟨h1, rfl⟩
theorem mm_chrE {x : Int32} {u : Unit} (h : mm_chr x = some u) : narrow .char (.int x) = .int x ∧ fits .char (.int x) = true := by
  obtain ⟨⟨h1, h2⟩, -⟩ := mm_chkE h
  refine ⟨?_, ?_⟩
  · show Value.int x.toUInt32.toUInt16.toUInt32.toInt32 = .int x
    congr 1
    have e1 : (0 : Int) ≤ x.toInt := Int32.le_iff_toInt_le.mp h1
    have e2 : x.toInt ≤ 65535 := Int32.le_iff_toInt_le.mp h2
    have e3 : x.toUInt32.toNat < 65536 := by
      have h5 : (x.toUInt32.toNat : Int) = x.toInt := by
        have h6 : x.toInt = if 2 * x.toUInt32.toNat < 2 ^ 32 then (x.toUInt32.toNat : Int) else (x.toUInt32.toNat : Int) - ((2 ^ 32 : Nat) : Int) := BitVec.toInt_eq_toNat_cond _
        have h8 : x.toUInt32.toNat < 4294967296 := x.toUInt32.toNat_lt
        by_cases h9 : 2 * x.toUInt32.toNat < 2 ^ 32
        · rw [if_pos h9] at h6; exact h6.symm
        · rw [if_neg h9] at h6; omega
      omega
    have e4 : x.toUInt32.toUInt16.toUInt32 = x.toUInt32 := by
      apply UInt32.toNat_inj.mp
      rw [UInt16.toNat_toUInt32, UInt32.toNat_toUInt16]
      omega
    rw [e4]
    rfl
  · show (decide (0 ≤ x) && decide (x ≤ 65535)) = true
    simp [h1, h2]
theorem mm_gTE {h : mm_H} {k r : Nat} (e : mm_gT h k = some r) : h.2.2 32 k = some r ∧ mm_tg r = 7 := by
  unfold mm_gT at e
  split at e
  · rename_i q hq
    obtain ⟨h1, h2⟩ := mm_chkE e
    cases h2
    exact ⟨hq, h1⟩
  · cases e
theorem mm_okWE {w : Option Nat} (e : mm_okW w = true) : ∀ i, w = some i → i < 28 := by
  intro i hi
  subst hi
  simpa [mm_okW] using e
theorem mm_gWE {h : mm_H} {w : Option Nat} (e : mm_gW h = some w) : h.2.2 33 7 = w ∧ ∀ i, w = some i → i < 28 := by
  obtain ⟨h1, h2⟩ := mm_chkE e
  cases h2
  exact ⟨rfl, mm_okWE h1⟩
section FR
variable {V : mm_V} {l : Launch} {Y : mm_Y} {d ck sk : Nat} {Z : List Frame → Array Value → State → State → Prop} {pc n : Nat} {lv lv' : List (Nat × Value)} {st : List Value} {h : mm_H}
/-- a reference that lies where the layout has it -/
theorem MM.gR {i a k r : Nat} (t o : Nat) (ht : mm_tg a = t) (hq : t < 10 ∧ k < mm_nf t ∧ mm_kd (mm_ty t k) = 2 ∧ mm_mu t k = false ∧ mm_of t k = o) (er : a + o = r) (hly : mm_lays t) (hlk : Cond.fieldLink Y.1.cls i (mm_fld t k).1 (mm_fld t k).2.1 (mm_fld t k).2.2.1 ∈ mm_gw) (hd : decode Y.2.1 pc = .ok (.getfield i, 3)) (hn : pc + 3 = n) (kk : MM V l Y d ck sk Z n lv (.ref r :: st) h) : MM V l Y d ck sk Z pc lv (.ref a :: st) h := by
  refine MM.getR t ht ?_ hly ⟨hq.1, hq.2.1, hq.2.2.1⟩ hlk hd hn kk
  unfold mm_rf mm_ad
  rw [ht, hq.2.2.2.1, if_neg (by decide), if_pos (show t < 20 by omega), hq.2.2.2.2, er]
/-- the towns -/
theorem MM.gT {i k r : Nat} (e : h.2.2 32 k = some r) (ht : mm_tg 32 = 8) (hq : k < mm_nf 8 ∧ mm_kd (mm_ty 8 k) = 2 ∧ mm_mu 8 k = true) (hly : mm_lays 8) (hlk : Cond.fieldLink Y.1.cls i (mm_fld 8 k).1 (mm_fld 8 k).2.1 (mm_fld 8 k).2.2.1 ∈ mm_gw) (hd : decode Y.2.1 pc = .ok (.getfield i, 3)) (hn : pc + 3 = n) (kk : MM V l Y d ck sk Z n lv (.ref r :: st) h) : MM V l Y d ck sk Z pc lv (.ref 32 :: st) h := by
  refine MM.getR 8 ht ?_ hly ⟨by omega, hq.1, hq.2.1⟩ hlk hd hn kk
  unfold mm_rf
  rw [ht, hq.2.2, if_pos rfl, e]
/-- the word on the tape -/
theorem MM.gW {i : Nat} {w : Option Nat} (e : h.2.2 33 7 = w) (ht : mm_tg 33 = 6) (hq : 7 < mm_nf 6 ∧ mm_kd (mm_ty 6 7) = 2 ∧ mm_mu 6 7 = true) (hly : mm_lays 6) (hlk : Cond.fieldLink Y.1.cls i (mm_fld 6 7).1 (mm_fld 6 7).2.1 (mm_fld 6 7).2.2.1 ∈ mm_gw) (hd : decode Y.2.1 pc = .ok (.getfield i, 3)) (hn : pc + 3 = n) (kk : MM V l Y d ck sk Z n lv (va_rf w :: st) h) : MM V l Y d ck sk Z pc lv (.ref 33 :: st) h := by
  refine MM.getW 6 ht hly ⟨by omega, hq.1, hq.2.1⟩ hlk hd hn ?_
  have : mm_rf h 33 7 = w := by
    unfold mm_rf
    rw [ht, hq.2.2, if_pos rfl, e]
  rw [this]
  exact kk
theorem MM.gI {a k N : Nat} {i : Int32} (hk : mm_ix i N = some k) (ht : mm_tg a = 20 ∧ mm_ln a = N) (hd : decode Y.2.1 pc = .ok (.iaload, 1)) (hn : pc + 1 = n) (kk : MM V l Y d ck sk Z n lv (.int (h.1 a k) :: st) h) : MM V l Y d ck sk Z pc lv (.int i :: .ref a :: st) h := by
  obtain ⟨h1, rfl⟩ := mm_ixE hk
  exact MM.iald ht.1 (by rw [ht.2]; exact h1) hd hn kk
theorem MM.gC {a k N : Nat} {i : Int32} (hk : mm_ix i N = some k) (ht : mm_tg a = 22 ∧ mm_ln a = N) (hd : decode Y.2.1 pc = .ok (.caload, 1)) (hn : pc + 1 = n) (kk : MM V l Y d ck sk Z n lv (.int (h.1 a k) :: st) h) : MM V l Y d ck sk Z pc lv (.int i :: .ref a :: st) h := by
  obtain ⟨h1, rfl⟩ := mm_ixE hk
  exact MM.cald ht.1 (by rw [ht.2]; exact h1) hd hn kk
theorem MM.gZ {a k N : Nat} {i : Int32} (hk : mm_ix i N = some k) (ht : mm_tg a = 23 ∧ mm_ln a = N) (hd : decode Y.2.1 pc = .ok (.baload, 1)) (hn : pc + 1 = n) (kk : MM V l Y d ck sk Z n lv (.int (h.1 a k) :: st) h) : MM V l Y d ck sk Z pc lv (.int i :: .ref a :: st) h := by
  obtain ⟨h1, rfl⟩ := mm_ixE hk
  exact MM.zald ht.1 (by rw [ht.2]; exact h1) hd hn kk
theorem MM.gL {a k N : Nat} {i : Int32} (hk : mm_ix i N = some k) (ht : mm_tg a = 21 ∧ mm_ln a = N) (hd : decode Y.2.1 pc = .ok (.laload, 1)) (hn : pc + 1 = n) (kk : MM V l Y d ck sk Z n lv (.long (h.2.1 a k) :: st) h) : MM V l Y d ck sk Z pc lv (.int i :: .ref a :: st) h := by
  obtain ⟨h1, rfl⟩ := mm_ixE hk
  exact MM.lald ht.1 (by rw [ht.2]; exact h1) hd hn kk
theorem MM.gS61 {k r : Nat} {i : Int32} (hk : mm_ix i 16 = some k) (er : r = 113 + 6 * k) (hd : decode Y.2.1 pc = .ok (.aaload, 1)) (hn : pc + 1 = n) (kk : MM V l Y d ck sk Z n lv (.ref r :: st) h) : MM V l Y d ck sk Z pc lv (.int i :: .ref 61 :: st) h := by
  obtain ⟨h1, rfl⟩ := mm_ixE hk
  have ht : mm_tg 61 = 24 := by decide +kernel
  exact MM.aaldS ht (by rw [show mm_ln 61 = 16 by decide +kernel]; exact h1) (by unfold mm_rf mm_ad; rw [ht]; rw [er]; rfl) hd hn kk
theorem MM.gS62 {k r : Nat} {i : Int32} (hk : mm_ix i 4 = some k) (er : r = 209 + 13 * k) (hd : decode Y.2.1 pc = .ok (.aaload, 1)) (hn : pc + 1 = n) (kk : MM V l Y d ck sk Z n lv (.ref r :: st) h) : MM V l Y d ck sk Z pc lv (.int i :: .ref 62 :: st) h := by
  obtain ⟨h1, rfl⟩ := mm_ixE hk
  have ht : mm_tg 62 = 24 := by decide +kernel
  exact MM.aaldS ht (by rw [show mm_ln 62 = 4 by decide +kernel]; exact h1) (by unfold mm_rf mm_ad; rw [ht]; rw [er]; rfl) hd hn kk
theorem MM.gS63 {k r : Nat} {i : Int32} (hk : mm_ix i 4 = some k) (er : r = 215 + 13 * k) (hd : decode Y.2.1 pc = .ok (.aaload, 1)) (hn : pc + 1 = n) (kk : MM V l Y d ck sk Z n lv (.ref r :: st) h) : MM V l Y d ck sk Z pc lv (.int i :: .ref 63 :: st) h := by
  obtain ⟨h1, rfl⟩ := mm_ixE hk
  have ht : mm_tg 63 = 25 := by decide +kernel
  exact MM.aaldT ht (by rw [show mm_ln 63 = 4 by decide +kernel]; exact h1) (by unfold mm_rf mm_ad; rw [ht]; rw [er]; rfl) hd hn kk
theorem MM.gWS {k : Nat} {i : Int32} (hk : mm_ix i 28 = some k) (hd : decode Y.2.1 pc = .ok (.aaload, 1)) (hn : pc + 1 = n) (kk : k < 28 → MM V l Y d ck sk Z n lv (va_rf (some k) :: st) h) : MM V l Y d ck sk Z pc lv (.int i :: .ref 28 :: st) h := by
  obtain ⟨h1, rfl⟩ := mm_ixE hk
  exact MM.wald h1 hd hn (kk (mm_in_lt h1))
theorem MM.sI {a k N : Nat} {i x : Int32} {h' : mm_H} (hk : mm_ix i N = some k) (e : h' = mm_pI h a k x) (ht : mm_tg a = 20 ∧ mm_ln a = N) (hd : decode Y.2.1 pc = .ok (.iastore, 1)) (hn : pc + 1 = n) (kk : MM V l Y d ck sk Z n lv st h') : MM V l Y d ck sk Z pc lv (.int x :: .int i :: .ref a :: st) h := by
  obtain ⟨h1, rfl⟩ := mm_ixE hk
  exact MM.iast e ht.1 (by rw [ht.2]; exact h1) hd hn kk
theorem MM.sC {a k N : Nat} {i x : Int32} {h' : mm_H} (hk : mm_ix i N = some k) (e : h' = mm_pI h a k (x.toUInt32.toUInt16.toUInt32.toInt32)) (ht : mm_tg a = 22 ∧ mm_ln a = N) (hd : decode Y.2.1 pc = .ok (.castore, 1)) (hn : pc + 1 = n) (kk : MM V l Y d ck sk Z n lv st h') : MM V l Y d ck sk Z pc lv (.int x :: .int i :: .ref a :: st) h := by
  obtain ⟨h1, rfl⟩ := mm_ixE hk
  exact MM.cast e ht.1 (by rw [ht.2]; exact h1) hd hn kk
theorem MM.sZ {a k N : Nat} {i x : Int32} {h' : mm_H} (hk : mm_ix i N = some k) (e : h' = mm_pI h a k (x &&& 1)) (ht : mm_tg a = 23 ∧ mm_ln a = N) (hd : decode Y.2.1 pc = .ok (.bastore, 1)) (hn : pc + 1 = n) (kk : MM V l Y d ck sk Z n lv st h') : MM V l Y d ck sk Z pc lv (.int x :: .int i :: .ref a :: st) h := by
  obtain ⟨h1, rfl⟩ := mm_ixE hk
  exact MM.zast e ht.1 (by rw [ht.2]; exact h1) hd hn kk
theorem MM.sL {a k N : Nat} {i : Int32} {x : Int64} {h' : mm_H} (hk : mm_ix i N = some k) (e : h' = mm_pL h a k x) (ht : mm_tg a = 21 ∧ mm_ln a = N) (hd : decode Y.2.1 pc = .ok (.lastore, 1)) (hn : pc + 1 = n) (kk : MM V l Y d ck sk Z n lv st h') : MM V l Y d ck sk Z pc lv (.long x :: .int i :: .ref a :: st) h := by
  obtain ⟨h1, rfl⟩ := mm_ixE hk
  exact MM.last e ht.1 (by rw [ht.2]; exact h1) hd hn kk
theorem MM.alenN {a t N : Nat} {v : Int32} (ht : mm_tg a = t ∧ mm_ln a = N) (h1 : 20 ≤ t ∧ t < 26) (ev : Int32.ofNat N = v) (hd : decode Y.2.1 pc = .ok (.arraylength, 1)) (hn : pc + 1 = n) (kk : MM V l Y d ck sk Z n lv (.int v :: st) h) : MM V l Y d ck sk Z pc lv (.ref a :: st) h := by
  refine MM.alen ht.1 h1.1 h1.2 hd hn ?_
  rw [ht.2, ev]
  exact kk
/-- the text of the signs -/
theorem MM.ldcS (hY : Y.1.cls = "PaidSecrets$Tape") (hd : decode Y.2.1 pc = .ok (.ldc 55, 2)) (hn : pc + 2 = n) (kk : MM V l Y d ck sk Z n lv (.ref 29 :: st) h) : MM V l Y d ck sk Z pc lv st h := by
  subst hn
  intro p e R s m args below meth c H locs ls F hl hP hS
  have hown := F.2.2.2.2.2.1
  rw [hY] at hown
  exact va_ldcS F.1 F.2.1 hown F.2.2.2.2.2.2.2.1.2.2.2.2.2.2.2.1 hd (kk p e R s m args below meth c H locs ls F hl hP hS)
theorem MM.strV {i : Nat} (hlk : Cond.fieldLink Y.1.cls i "java/lang/String" "value" "[B" ∈ mm_gw) (hd : decode Y.2.1 pc = .ok (.getfield i, 3)) (hn : pc + 3 = n) (kk : MM V l Y d ck sk Z n lv (.ref 30 :: st) h) : MM V l Y d ck sk Z pc lv (.ref 29 :: st) h := by
  subst hn
  intro p e R s m args below meth c H locs ls F hl hP hS
  exact vk_getf F.1 F.2.1 (F.2.2.2.2.2.2.2.1.2.2.2.2.2.2.2.2.1.1 0 (by decide)).2.2.1 hS F.2.2.2.2.2.1 (F.2.2.2.2.2.2.1 _ hlk) (fun _ z => z) hd (kk p e R s m args below meth c H locs ls F hl hP hS)
theorem MM.strC {i : Nat} (hlk : Cond.fieldLink Y.1.cls i "java/lang/String" "coder" "B" ∈ mm_gw) (hd : decode Y.2.1 pc = .ok (.getfield i, 3)) (hn : pc + 3 = n) (kk : MM V l Y d ck sk Z n lv (.int 0 :: st) h) : MM V l Y d ck sk Z pc lv (.ref 29 :: st) h := by
  subst hn
  intro p e R s m args below meth c H locs ls F hl hP hS
  exact vk_getf F.1 F.2.1 (F.2.2.2.2.2.2.2.1.2.2.2.2.2.2.2.2.1.1 0 (by decide)).2.1 hS F.2.2.2.2.2.1 (F.2.2.2.2.2.2.1 _ hlk) (fun _ z => z) hd (kk p e R s m args below meth c H locs ls F hl hP hS)
theorem MM.strK {i : Nat} (hlk : Cond.fieldLink Y.1.cls i "java/lang/String" "COMPACT_STRINGS" "Z" ∈ mm_gw) (hd : decode Y.2.1 pc = .ok (.getstatic i, 3)) (hn : pc + 3 = n) (kk : MM V l Y d ck sk Z n lv (.int 1 :: st) h) : MM V l Y d ck sk Z pc lv st h := by
  subst hn
  intro p e R s m args below meth c H locs ls F hl hP hS
  exact va_gets F.1 F.2.1 F.2.2.2.2.2.2.2.1.2.2.2.2.2.2.2.2.2.1 hS F.2.2.2.2.2.1 (F.2.2.2.2.2.2.1 _ hlk) (fun _ z => z) hd (kk p e R s m args below meth c H locs ls F hl hP hS)
theorem MM.strL (hd : decode Y.2.1 pc = .ok (.arraylength, 1)) (hn : pc + 1 = n) (kk : MM V l Y d ck sk Z n lv (.int 8 :: st) h) : MM V l Y d ck sk Z pc lv (.ref 30 :: st) h := by
  subst hn
  intro p e R s m args below meth c H locs ls F hl hP hS
  exact va_tlen F.1 F.2.1 (F.2.2.2.2.2.2.2.1.2.2.2.2.2.2.2.2.1.1 0 (by decide)).2.2.2 hS (by decide) hd (kk p e R s m args below meth c H locs ls F hl hP hS)
theorem MM.strB {i : Int32} {k : Nat} (hk : mm_ix i 8 = some k) (hd : decode Y.2.1 pc = .ok (.baload, 1)) (hn : pc + 1 = n) (kk : MM V l Y d ck sk Z n lv (.int (mm_byt.getD k 0) :: st) h) : MM V l Y d ck sk Z pc lv (.int i :: .ref 30 :: st) h := by
  obtain ⟨hin, rfl⟩ := mm_ixE hk
  subst hn
  intro p e R s m args below meth c H locs ls F hl hP hS
  obtain ⟨cell, g1, g2, g3, g4, g5, g6, -⟩ := (F.2.2.2.2.2.2.2.1.2.2.2.2.2.2.2.2.1.1 0 (by decide)).2.2.2.kept hS.2.1
  have hlt := mm_in_lt hin
  refine W.bald (v := .int (mm_byt.getD i.toNatClampNeg 0)) F.1 F.2.1 g1 g2 g3 (fun q => ?_) (g6 _ hlt) rfl rfl hd (kk p e R s m args below meth c H locs ls F hl hP hS)
  exact hin (q.elim Or.inl (fun z => Or.inr (Nat.le_trans g4 z)))
/-- the script -/
theorem MM.slen (hd : decode Y.2.1 pc = .ok (.arraylength, 1)) (hn : pc + 1 = n) (kk : MM V l Y d ck sk Z n lv (.int (Int32.ofNat V.2.2.2.1) :: st) h) : MM V l Y d ck sk Z pc lv (.ref 31 :: st) h := by
  subst hn
  intro p e R s m args below meth c H locs ls F hl hP hS
  exact va_tlen F.1 F.2.1 F.2.2.2.2.2.2.2.1.2.2.2.2.2.2.2.2.2.2 hS rfl hd (kk p e R s m args below meth c H locs ls F hl hP hS)
theorem MM.sld {i : Int32} {k : Nat} (hk : mm_ix i V.2.2.2.1 = some k) (hd : decode Y.2.1 pc = .ok (.iaload, 1)) (hn : pc + 1 = n) (kk : MM V l Y d ck sk Z n lv (.int (V.2.2.2.2 k) :: st) h) : MM V l Y d ck sk Z pc lv (.int i :: .ref 31 :: st) h := by
  obtain ⟨hin, rfl⟩ := mm_ixE hk
  subst hn
  intro p e R s m args below meth c H locs ls F hl hP hS
  obtain ⟨cell, g1, g2, g3, g4, g5, g6, -⟩ := F.2.2.2.2.2.2.2.1.2.2.2.2.2.2.2.2.2.2.kept hS.2.1
  have hlt := mm_in_lt hin
  refine W.iald (v := .int (V.2.2.2.2 i.toNatClampNeg)) F.1 F.2.1 g1 g2 g3 (fun q => ?_) (g6 _ hlt) rfl rfl hd (kk p e R s m args below meth c H locs ls F hl hP hS)
  exact hin (q.elim Or.inl (fun z => Or.inr (Nat.le_trans g4 z)))
theorem MM.i2b {x : Int32} (hd : decode Y.2.1 pc = .ok (.i2b, 1)) (hn : pc + 1 = n) (k : MM V l Y d ck sk Z n lv (.int x.toInt8.toInt32 :: st) h) : MM V l Y d ck sk Z pc lv (.int x :: st) h := by
  subst hn
  intro p e R s m args below meth c H locs ls F hl hP hS
  exact lv_i2b F.1 F.2.1 hd rfl (k p e R s m args below meth c H locs ls F hl hP hS)
theorem mm_swOut {x : Int32} {v : Int32} (h : ¬ x = v) : x.toInt ≠ v.toInt := fun q => h (Int32.toInt_inj.mp q)
end FR
/-! calls whose answer is known -/
section CK
variable {V : mm_V} {l : Launch} {Y : mm_Y} {d ck sk : Nat} {Z : List Frame → Array Value → State → State → Prop} {pc n : Nat} {lv : List (Nat × Value)} {st : List Value} {h h' : mm_H} {Q : Option Value → mm_H → Prop} {v : Value}
theorem MM.callV0 {Y2 : mm_Y} {b t d2 np index : Nat} {As stk : List Value} (hT : MT V l Y2 d2 (.ref b :: As) Q h) (hQ : ∀ r1 h1, Q r1 h1 → r1 = none ∧ h1 = h') (hc : mm_callee Y2 np) (hnp : As.length = np) (ht : mm_tg b = t) (hcl : t < 10 ∧ (mm_cl.getD t (RX0, TX0, 0)).1 = Y2.1.cls) (hsel : Cond.selects Y2.1.cls Y2.1 Y2.1 ∈ mm_gw) (hin : Cond.instanceMethod Y2.1 ∈ mm_gw) (hl : Cond.methodLink Y.1.cls index Y2.1 ∈ mm_gw) (hd2 : d2 + 1 ≤ d) (hcat : (st.map fun v => v.category).sum ≤ 8)     (hd : decode Y.2.1 pc = .ok (.invokevirtual index, 3)) (hstk : As.reverse ++ .ref b :: st = stk) (hck : ck = 0 ∧ sk = 0) (hn : pc + 3 = n) (k : MM V l Y d ck sk Z n lv st h') : MM V l Y d ck sk Z pc lv stk h := by
  refine MM.callV hT hc hnp ht hcl hsel hin hl hd2 hcat hd hstk hck hn (fun r1 h1 q => ?_)
  obtain ⟨rfl, rfl⟩ := hQ r1 h1 q
  exact k
theorem MM.callV1 {Y2 : mm_Y} {b t d2 np index : Nat} {As stk : List Value} (hT : MT V l Y2 d2 (.ref b :: As) Q h) (hQ : ∀ r1 h1, Q r1 h1 → r1 = some v ∧ h1 = h') (hc : mm_callee Y2 np) (hnp : As.length = np) (ht : mm_tg b = t) (hcl : t < 10 ∧ (mm_cl.getD t (RX0, TX0, 0)).1 = Y2.1.cls) (hsel : Cond.selects Y2.1.cls Y2.1 Y2.1 ∈ mm_gw) (hin : Cond.instanceMethod Y2.1 ∈ mm_gw) (hl : Cond.methodLink Y.1.cls index Y2.1 ∈ mm_gw) (hd2 : d2 + 1 ≤ d) (hcat : (st.map fun v => v.category).sum ≤ 8)     (hd : decode Y.2.1 pc = .ok (.invokevirtual index, 3)) (hstk : As.reverse ++ .ref b :: st = stk) (hck : ck = 0 ∧ sk = 0) (hn : pc + 3 = n) (k : MM V l Y d ck sk Z n lv (v :: st) h') : MM V l Y d ck sk Z pc lv stk h := by
  refine MM.callV hT hc hnp ht hcl hsel hin hl hd2 hcat hd hstk hck hn (fun r1 h1 q => ?_)
  obtain ⟨rfl, rfl⟩ := hQ r1 h1 q
  exact k
theorem MM.callVN0 {Y2 : mm_Y} {b t d2 np index : Nat} {host : String} {As stk : List Value} (hT : MT V l Y2 d2 (.ref b :: As) Q h) (hQ : ∀ r1 h1, Q r1 h1 → r1 = none ∧ h1 = h') (hc : mm_callee Y2 np) (hnp : As.length = np) (ht : mm_tg b = t) (hcl : t < 10 ∧ (mm_cl.getD t (RX0, TX0, 0)).1 = Y2.1.cls) (hsel : Cond.selects Y2.1.cls Y2.1 Y2.1 ∈ mm_gw) (hin : Cond.instanceMethod Y2.1 ∈ mm_gw) (hl : Cond.methodLinkNest Y.1.cls index Y2.1 host ∈ mm_nw) (hd2 : d2 + 1 ≤ d) (hcat : (st.map fun v => v.category).sum ≤ 8)     (hd : decode Y.2.1 pc = .ok (.invokevirtual index, 3)) (hstk : As.reverse ++ .ref b :: st = stk) (hck : ck = 0 ∧ sk = 0) (hn : pc + 3 = n) (k : MM V l Y d ck sk Z n lv st h') : MM V l Y d ck sk Z pc lv stk h := by
  refine MM.callVN hT hc hnp ht hcl hsel hin hl hd2 hcat hd hstk hck hn (fun r1 h1 q => ?_)
  obtain ⟨rfl, rfl⟩ := hQ r1 h1 q
  exact k
theorem MM.callVN1 {Y2 : mm_Y} {b t d2 np index : Nat} {host : String} {As stk : List Value} (hT : MT V l Y2 d2 (.ref b :: As) Q h) (hQ : ∀ r1 h1, Q r1 h1 → r1 = some v ∧ h1 = h') (hc : mm_callee Y2 np) (hnp : As.length = np) (ht : mm_tg b = t) (hcl : t < 10 ∧ (mm_cl.getD t (RX0, TX0, 0)).1 = Y2.1.cls) (hsel : Cond.selects Y2.1.cls Y2.1 Y2.1 ∈ mm_gw) (hin : Cond.instanceMethod Y2.1 ∈ mm_gw) (hl : Cond.methodLinkNest Y.1.cls index Y2.1 host ∈ mm_nw) (hd2 : d2 + 1 ≤ d) (hcat : (st.map fun v => v.category).sum ≤ 8)     (hd : decode Y.2.1 pc = .ok (.invokevirtual index, 3)) (hstk : As.reverse ++ .ref b :: st = stk) (hck : ck = 0 ∧ sk = 0) (hn : pc + 3 = n) (k : MM V l Y d ck sk Z n lv (v :: st) h') : MM V l Y d ck sk Z pc lv stk h := by
  refine MM.callVN hT hc hnp ht hcl hsel hin hl hd2 hcat hd hstk hck hn (fun r1 h1 q => ?_)
  obtain ⟨rfl, rfl⟩ := hQ r1 h1 q
  exact k
theorem MM.callS0 {Y2 : mm_Y} {d2 np index : Nat} {As stk : List Value} (hT : MT V l Y2 d2 As Q h) (hQ : ∀ r1 h1, Q r1 h1 → r1 = none ∧ h1 = h') (hc : mm_callee Y2 np) (hnp : As.length = np) (hstt : Cond.static Y2.1 ∈ mm_gw) (hl : Cond.methodLink Y.1.cls index Y2.1 ∈ mm_gw) (hd2 : d2 + 1 ≤ d) (hcat : (st.map fun v => v.category).sum ≤ 8)     (hd : decode Y.2.1 pc = .ok (.invokestatic index, 3)) (hstk : As.reverse ++ st = stk) (hck : ck = 0 ∧ sk = 0) (hn : pc + 3 = n) (k : MM V l Y d ck sk Z n lv st h') : MM V l Y d ck sk Z pc lv stk h := by
  refine MM.callS hT hc hnp hstt hl hd2 hcat hd hstk hck hn (fun r1 h1 q => ?_)
  obtain ⟨rfl, rfl⟩ := hQ r1 h1 q
  exact k
theorem MM.callS1 {Y2 : mm_Y} {d2 np index : Nat} {As stk : List Value} (hT : MT V l Y2 d2 As Q h) (hQ : ∀ r1 h1, Q r1 h1 → r1 = some v ∧ h1 = h') (hc : mm_callee Y2 np) (hnp : As.length = np) (hstt : Cond.static Y2.1 ∈ mm_gw) (hl : Cond.methodLink Y.1.cls index Y2.1 ∈ mm_gw) (hd2 : d2 + 1 ≤ d) (hcat : (st.map fun v => v.category).sum ≤ 8)     (hd : decode Y.2.1 pc = .ok (.invokestatic index, 3)) (hstk : As.reverse ++ st = stk) (hck : ck = 0 ∧ sk = 0) (hn : pc + 3 = n) (k : MM V l Y d ck sk Z n lv (v :: st) h') : MM V l Y d ck sk Z pc lv stk h := by
  refine MM.callS hT hc hnp hstt hl hd2 hcat hd hstk hck hn (fun r1 h1 q => ?_)
  obtain ⟨rfl, rfl⟩ := hQ r1 h1 q
  exact k
theorem MM.callSN0 {Y2 : mm_Y} {d2 np index : Nat} {host : String} {As stk : List Value} (hT : MT V l Y2 d2 As Q h) (hQ : ∀ r1 h1, Q r1 h1 → r1 = none ∧ h1 = h') (hc : mm_callee Y2 np) (hnp : As.length = np) (hstt : Cond.static Y2.1 ∈ mm_gw) (hl : Cond.methodLinkNest Y.1.cls index Y2.1 host ∈ mm_nw) (hd2 : d2 + 1 ≤ d) (hcat : (st.map fun v => v.category).sum ≤ 8)     (hd : decode Y.2.1 pc = .ok (.invokestatic index, 3)) (hstk : As.reverse ++ st = stk) (hck : ck = 0 ∧ sk = 0) (hn : pc + 3 = n) (k : MM V l Y d ck sk Z n lv st h') : MM V l Y d ck sk Z pc lv stk h := by
  refine MM.callSN hT hc hnp hstt hl hd2 hcat hd hstk hck hn (fun r1 h1 q => ?_)
  obtain ⟨rfl, rfl⟩ := hQ r1 h1 q
  exact k
theorem MM.callSN1 {Y2 : mm_Y} {d2 np index : Nat} {host : String} {As stk : List Value} (hT : MT V l Y2 d2 As Q h) (hQ : ∀ r1 h1, Q r1 h1 → r1 = some v ∧ h1 = h') (hc : mm_callee Y2 np) (hnp : As.length = np) (hstt : Cond.static Y2.1 ∈ mm_gw) (hl : Cond.methodLinkNest Y.1.cls index Y2.1 host ∈ mm_nw) (hd2 : d2 + 1 ≤ d) (hcat : (st.map fun v => v.category).sum ≤ 8)     (hd : decode Y.2.1 pc = .ok (.invokestatic index, 3)) (hstk : As.reverse ++ st = stk) (hck : ck = 0 ∧ sk = 0) (hn : pc + 3 = n) (k : MM V l Y d ck sk Z n lv (v :: st) h') : MM V l Y d ck sk Z pc lv stk h := by
  refine MM.callSN hT hc hnp hstt hl hd2 hcat hd hstk hck hn (fun r1 h1 q => ?_)
  obtain ⟨rfl, rfl⟩ := hQ r1 h1 q
  exact k
end CK
section CT
variable {V : mm_V} {l : Launch} {Y : mm_Y} {d ck sk : Nat} {Z : List Frame → Array Value → State → State → Prop} {pc n : Nat} {lv : List (Nat × Value)} {st : List Value} {h h' : mm_H} {Q : Option Value → mm_H → Prop} {v : Value}
/-- a method of the text of the signs -/
theorem MM.callT1 {Y2 : mm_Y} {d2 np index : Nat} {As stk : List Value} (hT : MT V l Y2 d2 (.ref 29 :: As) (fun r1 h1 => r1 = some v ∧ h1 = h') h) (hc : mm_callee Y2 np) (hnp : As.length = np) (hcl : "java/lang/String" = Y2.1.cls) (hdec : True) (hsel : Cond.selects Y2.1.cls Y2.1 Y2.1 ∈ mm_gw) (hin : Cond.instanceMethod Y2.1 ∈ mm_gw) (hl : Cond.methodLink Y.1.cls index Y2.1 ∈ mm_gw) (hd2 : d2 + 1 ≤ d) (hcat : (st.map fun v => v.category).sum ≤ 8)
    (hd : decode Y.2.1 pc = .ok (.invokevirtual index, 3)) (hstk : As.reverse ++ .ref 29 :: st = stk) (hck : ck = 0 ∧ sk = 0) (hn : pc + 3 = n) (k : MM V l Y d ck sk Z n lv (v :: st) h') : MM V l Y d ck sk Z pc lv stk h := by
  subst hn; subst hstk; subst hnp
  obtain ⟨rfl, rfl⟩ := hck
  intro p e R s m args below meth c H locs ls F hl0 hP hS
  have hr := vk_recv (i := 0) F.2.2.2.2.2.2.2.1.2.2.2.2.2.2.2.2.1 (by decide) hS
  rw [hcl] at hr
  have run : va_Run p l e R s m args below meth c H locs 0 0 0 0 (F0 m pc ls ((As.reverse ++ .ref 29 :: st).map (mm_rv V))) (st.map (mm_rv V)) (mm_Q V (fun r1 h1 => r1 = some v ∧ h1 = h') ((.ref 29 :: As).map (mm_rv V)).toArray) (mm_fr V) := va_runV (H := H) (locs := locs) (cells := 0) (slots := 0) (g := F0 m pc ls ((As.reverse ++ .ref 29 :: st).map (mm_rv V))) (b := V.1 29) (As := As.map (mm_rv V)) (rest := st.map (mm_rv V)) (C := Y2.1.cls) (mm_fix F) hT ⟨mm_cb F hc hl hd2, F.2.2.2.2.2.2.1 _ hin, F.2.2.2.2.2.2.1 _ hsel⟩
    ⟨mm_blind, hr, mm_pre F hP hS (.ref 29 :: As)⟩ rfl (List.length_map ..) hl0.1 (by simp [F0, mm_rv]) (lv_room (by rw [List.map_map]; have e9 : (fun v => Value.category v) ∘ mm_rv V = fun v => Value.category v := funext fun v => mm_rv_cat V v; rw [e9]; exact hcat)) hd ⟨Nat.zero_le _, Nat.zero_le _⟩
  refine mm_after run hS fun r h1 H1 locs1 hq hP1 hS1 => ?_
  obtain ⟨rfl, rfl⟩ := hq
  exact k p e R s m args below meth c H1 locs1 ls F hl0 hP1 hS1
theorem mm_cpI_off {h : mm_H} {a b n c j : Nat} (hc : c ≠ b) : mm_val (mm_cpI h a b n) c j = mm_val h c j := by
  unfold mm_val mm_rf mm_cpI
  simp only [hc, false_and, if_false]
theorem mm_cpL_off {h : mm_H} {a b n c j : Nat} (hc : c ≠ b) : mm_val (mm_cpL h a b n) c j = mm_val h c j := by
  unfold mm_val mm_rf mm_cpL
  simp only [hc, false_and, if_false]
/-- rows copied from their beginnings -/
theorem MM.copyI {a b n nA nB index n' : Nat} {N : Int32} {h' : mm_H} (e : h' = mm_cpI h a b n) (hta : mm_tg a = 20 ∧ mm_ln a = nA) (htb : mm_tg b = 20 ∧ mm_ln b = nB) (hl : Cond.methodLink Y.1.cls index arraycopyName ∈ mm_gw) (hnat : Cond.native arraycopyName ∈ mm_gw) (hstt : Cond.static arraycopyName ∈ mm_gw) (hini : Cond.initialized "java/lang/System" ∈ mm_gw) (h4 : n ≤ nA) (h5 : n ≤ nB) (hN : N.toInt = (n : Int)) (h6 : st = []) (h7 : 1 ≤ d) (hd : decode Y.2.1 pc = .ok (.invokestatic index, 3)) (hn : pc + 3 = n') (kk : MM V l Y d ck sk Z n' lv [] h') : MM V l Y d ck sk Z pc lv (.int N :: .int 0 :: .ref b :: .int 0 :: .ref a :: st) h := by
  subst hn; subst e; subst h6
  intro p e R s m args below meth c H locs ls F hl0 hP hS
  have hR := F.2.2.2.2.2.2.2.2.1
  obtain ⟨q1, q2⟩ := mm_arr F hP hta.1 (by omega) (by omega)
  obtain ⟨w1, w2⟩ := mm_arr F hP htb.1 (by omega) (by omega)
  obtain ⟨q3, k0, hk0, cm0, hkk0⟩ := q2
  obtain ⟨w3, k1, hk1, cm1, hkk1⟩ := w2
  intro T hT X
  have z0 : ((0 : Int32)).toInt = 0 := by decide
  have zc : ((0 : Int32)).toNatClampNeg = 0 := by decide
  have hNc : N.toNatClampNeg = n := by show N.toInt.toNat = n; omega
  have hN0 : ¬ N < 0 := by rw [Int32.lt_iff_toInt_lt, z0]; omega
  have rd : ∀ i, i < n → (arrV (V.2.1 20) (mm_ln a) (fun k => mm_rv V (mm_val h a k))).slots.getD i .null = .int (h.1 a i) := by
    intro i hi
    rw [Array.getD_eq_getD_getElem?, arrV_read _ _ (by omega), mm_val_i hta.1 rfl]
    rfl
  obtain ⟨vm', X', step⟩ := X.arraycopy F.1 F.2.2.2.2.2.1 (F.2.2.2.2.2.2.1 _ hl) (F.2.2.2.2.2.2.1 _ hnat) (F.2.2.2.2.2.2.1 _ hstt) (F.2.2.2.2.2.2.1 _ hini) (src := V.1 a) (dst := V.1 b) (cs := arrV (V.2.1 20) (mm_ln a) (fun k => mm_rv V (mm_val h a k))) (cd := arrV (V.2.1 20) (mm_ln b) (fun k => mm_rv V (mm_val h b k))) (srcPos := 0) (destPos := 0) (n := N) (by rw [hT]; exact q1) (by rw [hT]; exact w1)
    q3 w3 (fun h => by cases h) (fun h => by cases h) hk0 hk1 hkk0 hkk1 (by decide) (by decide) (by decide) hN0
    (by rw [z0, arrV_size]; omega)
    (by rw [z0, arrV_size]; omega)
    (fun vm₁ _ i hi => by
      rw [hNc] at hi
      rw [zc, Nat.zero_add, rd i hi]
      exact ⟨rfl, trivial⟩)
    (g := F0 m pc ls (.int N :: .int 0 :: .ref (V.1 b) :: .int 0 :: .ref (V.1 a) :: [])) rfl (by rw [F.2.2.2.2.1]; exact hl0.1) (rest := []) rfl (by rw [F.2.1]; exact hd) (by omega) (by have e0 : nativeFrameWords "java/lang/System" "arraycopy" 5 ≤ 20 := (by decide +kernel); show 2 * 0 + 0 + _ ≤ _; omega)
  have e1 : copied (arrV (V.2.1 20) (mm_ln a) (fun k => mm_rv V (mm_val h a k))) (arrV (V.2.1 20) (mm_ln b) (fun k => mm_rv V (mm_val h b k))) 0 0 N = arrV (V.2.1 20) (mm_ln b) (fun k => mm_rv V (mm_val (mm_cpI h a b n) b k)) := by
    have fa : (fun k => mm_rv V (mm_val h a k)) = fun k => .int (h.1 a k) := funext fun k => by rw [mm_val_i hta.1 rfl]; rfl
    have fb : (fun k => mm_rv V (mm_val h b k)) = fun k => .int (h.1 b k) := funext fun k => by rw [mm_val_i htb.1 rfl]; rfl
    have fc : (fun k => mm_rv V (mm_val (mm_cpI h a b n) b k)) = fun k => .int (va_cpy (h.1 a) (h.1 b) (0 : Int32).toNatClampNeg (0 : Int32).toNatClampNeg N.toNatClampNeg k) := funext fun k => by
      rw [mm_val_i htb.1 rfl, hNc, zc]
      unfold mm_cpI va_cpy
      simp [mm_rv]
    rw [fa, fb, fc]
    exact va_copied (fun z => .int z) _ _ (h.1 a) (h.1 b) (by rw [zc, hNc]; omega)
  rw [e1] at X' step
  have hl9 : V.1 b < H.size := (Array.getElem?_eq_some_iff.mp w1).1
  have hheap : ((T.setVm vm').setCell (V.1 b) (arrV (V.2.1 20) (mm_ln b) (fun k => mm_rv V (mm_val (mm_cpI h a b n) b k)))).heap = H.setIfInBounds (V.1 b) (arrV (V.2.1 20) (mm_ln b) (fun k => mm_rv V (mm_val (mm_cpI h a b n) b k))) := by rw [← hT]; rfl
  have oq : ∀ q : Nat, q ≠ V.1 b → (H.setIfInBounds (V.1 b) (arrV (V.2.1 20) (mm_ln b) (fun k => mm_rv V (mm_val (mm_cpI h a b n) b k))))[q]? = H[q]? := fun q hq => by simp [Array.getElem?_setIfInBounds, Ne.symm hq]
  have hal := mm_tg_lt htb.1 (by omega)
  have hV := F.2.2.2.2.2.2.2.1.1
  obtain ⟨t, a1, b1⟩ := kk p e R s m args below meth c (H.setIfInBounds (V.1 b) (arrV (V.2.1 20) (mm_ln b) (fun k => mm_rv V (mm_val (mm_cpI h a b n) b k)))) _ ls F hl0
    (hP.upd hV hal.1 (fun c j hc => mm_cpI_off hc) oq (by unfold mm_C; rw [htb.1, if_neg (by decide)]; simp [Array.getElem?_setIfInBounds, hl9])) ⟨by simp; exact hS.1, fun q g1 g2 => by
      rw [oq q (fun e => g2 (by rw [e]; exact hV.fr hal.1))]
      exact hS.2.1 q g1 g2, fun q hq => by
      rcases List.mem_append.mp hq with h | h
      · exact hS.2.2 q h
      · obtain ⟨z, -, hz⟩ := List.mem_map.mp h
        rw [← hz]
        exact hV.fr hal.1⟩ _ hheap X'
  exact ⟨t, step t a1, b1⟩
/-- rows copied from their beginnings -/
theorem MM.copyL {a b n nA nB index n' : Nat} {N : Int32} {h' : mm_H} (e : h' = mm_cpL h a b n) (hta : mm_tg a = 21 ∧ mm_ln a = nA) (htb : mm_tg b = 21 ∧ mm_ln b = nB) (hl : Cond.methodLink Y.1.cls index arraycopyName ∈ mm_gw) (hnat : Cond.native arraycopyName ∈ mm_gw) (hstt : Cond.static arraycopyName ∈ mm_gw) (hini : Cond.initialized "java/lang/System" ∈ mm_gw) (h4 : n ≤ nA) (h5 : n ≤ nB) (hN : N.toInt = (n : Int)) (h6 : st = []) (h7 : 1 ≤ d) (hd : decode Y.2.1 pc = .ok (.invokestatic index, 3)) (hn : pc + 3 = n') (kk : MM V l Y d ck sk Z n' lv [] h') : MM V l Y d ck sk Z pc lv (.int N :: .int 0 :: .ref b :: .int 0 :: .ref a :: st) h := by
  subst hn; subst e; subst h6
  intro p e R s m args below meth c H locs ls F hl0 hP hS
  have hR := F.2.2.2.2.2.2.2.2.1
  obtain ⟨q1, q2⟩ := mm_arr F hP hta.1 (by omega) (by omega)
  obtain ⟨w1, w2⟩ := mm_arr F hP htb.1 (by omega) (by omega)
  obtain ⟨q3, k0, hk0, cm0, hkk0⟩ := q2
  obtain ⟨w3, k1, hk1, cm1, hkk1⟩ := w2
  intro T hT X
  have z0 : ((0 : Int32)).toInt = 0 := by decide
  have zc : ((0 : Int32)).toNatClampNeg = 0 := by decide
  have hNc : N.toNatClampNeg = n := by show N.toInt.toNat = n; omega
  have hN0 : ¬ N < 0 := by rw [Int32.lt_iff_toInt_lt, z0]; omega
  have rd : ∀ i, i < n → (arrV (V.2.1 21) (mm_ln a) (fun k => mm_rv V (mm_val h a k))).slots.getD i .null = .long (h.2.1 a i) := by
    intro i hi
    rw [Array.getD_eq_getD_getElem?, arrV_read _ _ (by omega), mm_val_l hta.1 rfl]
    rfl
  obtain ⟨vm', X', step⟩ := X.arraycopy F.1 F.2.2.2.2.2.1 (F.2.2.2.2.2.2.1 _ hl) (F.2.2.2.2.2.2.1 _ hnat) (F.2.2.2.2.2.2.1 _ hstt) (F.2.2.2.2.2.2.1 _ hini) (src := V.1 a) (dst := V.1 b) (cs := arrV (V.2.1 21) (mm_ln a) (fun k => mm_rv V (mm_val h a k))) (cd := arrV (V.2.1 21) (mm_ln b) (fun k => mm_rv V (mm_val h b k))) (srcPos := 0) (destPos := 0) (n := N) (by rw [hT]; exact q1) (by rw [hT]; exact w1)
    q3 w3 (fun h => by cases h) (fun h => by cases h) hk0 hk1 hkk0 hkk1 (by decide) (by decide) (by decide) hN0
    (by rw [z0, arrV_size]; omega)
    (by rw [z0, arrV_size]; omega)
    (fun vm₁ _ i hi => by
      rw [hNc] at hi
      rw [zc, Nat.zero_add, rd i hi]
      exact ⟨rfl, trivial⟩)
    (g := F0 m pc ls (.int N :: .int 0 :: .ref (V.1 b) :: .int 0 :: .ref (V.1 a) :: [])) rfl (by rw [F.2.2.2.2.1]; exact hl0.1) (rest := []) rfl (by rw [F.2.1]; exact hd) (by omega) (by have e0 : nativeFrameWords "java/lang/System" "arraycopy" 5 ≤ 20 := (by decide +kernel); show 2 * 0 + 0 + _ ≤ _; omega)
  have e1 : copied (arrV (V.2.1 21) (mm_ln a) (fun k => mm_rv V (mm_val h a k))) (arrV (V.2.1 21) (mm_ln b) (fun k => mm_rv V (mm_val h b k))) 0 0 N = arrV (V.2.1 21) (mm_ln b) (fun k => mm_rv V (mm_val (mm_cpL h a b n) b k)) := by
    have fa : (fun k => mm_rv V (mm_val h a k)) = fun k => .long (h.2.1 a k) := funext fun k => by rw [mm_val_l hta.1 rfl]; rfl
    have fb : (fun k => mm_rv V (mm_val h b k)) = fun k => .long (h.2.1 b k) := funext fun k => by rw [mm_val_l htb.1 rfl]; rfl
    have fc : (fun k => mm_rv V (mm_val (mm_cpL h a b n) b k)) = fun k => .long (va_cpy (h.2.1 a) (h.2.1 b) (0 : Int32).toNatClampNeg (0 : Int32).toNatClampNeg N.toNatClampNeg k) := funext fun k => by
      rw [mm_val_l htb.1 rfl, hNc, zc]
      unfold mm_cpL va_cpy
      simp [mm_rv]
    rw [fa, fb, fc]
    exact va_copied (fun z => .long z) _ _ (h.2.1 a) (h.2.1 b) (by rw [zc, hNc]; omega)
  rw [e1] at X' step
  have hl9 : V.1 b < H.size := (Array.getElem?_eq_some_iff.mp w1).1
  have hheap : ((T.setVm vm').setCell (V.1 b) (arrV (V.2.1 21) (mm_ln b) (fun k => mm_rv V (mm_val (mm_cpL h a b n) b k)))).heap = H.setIfInBounds (V.1 b) (arrV (V.2.1 21) (mm_ln b) (fun k => mm_rv V (mm_val (mm_cpL h a b n) b k))) := by rw [← hT]; rfl
  have oq : ∀ q : Nat, q ≠ V.1 b → (H.setIfInBounds (V.1 b) (arrV (V.2.1 21) (mm_ln b) (fun k => mm_rv V (mm_val (mm_cpL h a b n) b k))))[q]? = H[q]? := fun q hq => by simp [Array.getElem?_setIfInBounds, Ne.symm hq]
  have hal := mm_tg_lt htb.1 (by omega)
  have hV := F.2.2.2.2.2.2.2.1.1
  obtain ⟨t, a1, b1⟩ := kk p e R s m args below meth c (H.setIfInBounds (V.1 b) (arrV (V.2.1 21) (mm_ln b) (fun k => mm_rv V (mm_val (mm_cpL h a b n) b k)))) _ ls F hl0
    (hP.upd hV hal.1 (fun c j hc => mm_cpL_off hc) oq (by unfold mm_C; rw [htb.1, if_neg (by decide)]; simp [Array.getElem?_setIfInBounds, hl9])) ⟨by simp; exact hS.1, fun q g1 g2 => by
      rw [oq q (fun e => g2 (by rw [e]; exact hV.fr hal.1))]
      exact hS.2.1 q g1 g2, fun q hq => by
      rcases List.mem_append.mp hq with h | h
      · exact hS.2.2 q h
      · obtain ⟨z, -, hz⟩ := List.mem_map.mp h
        rw [← hz]
        exact hV.fr hal.1⟩ _ hheap X'
  exact ⟨t, step t a1, b1⟩
end CT
