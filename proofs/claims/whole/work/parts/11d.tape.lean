/-! the tape on both sides: how many signs, and the same ones -/
def mp_tape (n : Nat) (h : mm_H) : Prop := n ≤ 1000 ∧ h.1 33 1 = Int32.ofNat n ∧ h.1 261 1 = Int32.ofNat n ∧ ∀ k, k < n → h.1 34 k = h.1 262 k ∧ (h.1 262 k = 10 ∨ (32 ≤ h.1 262 k ∧ h.1 262 k ≤ 126))
/-- may a sign lie on the tape -/
def mp_sg (y : Int32) : Bool := decide (y = 10) || (decide (32 ≤ y) && decide (y ≤ 126))
/-- a sign is laid on the class's tape -/
def mp_addX (y : Int32) (h : mm_H) : mm_H := if mp_sg y = true ∧ h.1 33 1 < 1000 then mm_pI (mm_pI h 34 (h.1 33 1).toNatClampNeg y) 33 1 (h.1 33 1 + 1) else h
/-- a sign is laid on the reference's tape -/
def mp_addM (y : Int32) (h : mm_H) : mm_H := if mp_sg y = true ∧ h.1 261 1 < 1000 then mm_pI (mm_pI h 262 (h.1 261 1).toNatClampNeg y) 261 1 (h.1 261 1 + 1) else h
theorem mp_ofNat_succ (n : Nat) : Int32.ofNat n + 1 = Int32.ofNat (n + 1) := (mc_inc n).symm
/-- laid on both, the tapes stay alike -/
theorem mp_tape_add {n : Nat} {h : mm_H} (t : mp_tape n h) (y : Int32) : ∃ n', mp_tape n' (mp_addM y (mp_addX y h)) := by
  obtain ⟨t1, t2, t3, t4⟩ := t
  by_cases hy : mp_sg y = true
  · by_cases hn : n < 1000
    · have hlt : Int32.ofNat n < 1000 := (mp_ofNat_lt (a := n) (b := 1000) (by omega) (by decide)).mpr hn
      have hk : (Int32.ofNat n).toNatClampNeg = n := mp_ofNat_toNat (by omega)
      refine ⟨n + 1, ?_⟩
      have eX : mp_addX y h = mm_pI (mm_pI h 34 n y) 33 1 (Int32.ofNat (n + 1)) := by
        unfold mp_addX
        rw [if_pos ⟨hy, by rw [t2]; exact hlt⟩, t2, hk, mp_ofNat_succ]
      have eM : (mp_addX y h).1 261 1 = Int32.ofNat n := by rw [eX, mp_I1, mp_I1]; simp [t3]
      have eR : mp_addM y (mp_addX y h) = mm_pI (mm_pI (mp_addX y h) 262 n y) 261 1 (Int32.ofNat (n + 1)) := by
        unfold mp_addM
        rw [if_pos ⟨hy, by rw [eM]; exact hlt⟩, eM, hk, mp_ofNat_succ]
      rw [eR, eX]
      refine ⟨by omega, ?_, ?_, fun k hk2 => ?_⟩
      · simp [mp_I1]
      · simp [mp_I1]
      · simp only [mp_I1]
        by_cases e : k = n
        · subst e
          simp
          simpa [mp_sg] using hy
        · have := t4 k (by omega)
          simp [e]
          exact this
    · have hge : ¬ Int32.ofNat n < 1000 := fun q => hn ((mp_ofNat_lt (a := n) (b := 1000) (by omega) (by decide)).mp q)
      have eX : mp_addX y h = h := by
        unfold mp_addX
        rw [if_neg (by rw [t2]; exact fun q => hge q.2)]
      have eM : mp_addM y h = h := by
        unfold mp_addM
        rw [if_neg (by rw [t3]; exact fun q => hge q.2)]
      rw [eX, eM]
      exact ⟨n, t1, t2, t3, t4⟩
  · have eX : mp_addX y h = h := by unfold mp_addX; rw [if_neg (fun q => hy q.1)]
    have eM : mp_addM y h = h := by unfold mp_addM; rw [if_neg (fun q => hy q.1)]
    rw [eX, eM]
    exact ⟨n, t1, t2, t3, t4⟩
