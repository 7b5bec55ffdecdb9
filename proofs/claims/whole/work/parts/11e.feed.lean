/-! feed, the class's side: three longs, eight bytes each -/
theorem mp_add_body {β : Type} (y : Int32) (h : mm_H) (h0 : 0 ≤ h.1 33 1) (K : mm_H → Option β) : ((if y = 10 then (some 1) else (if y < 32 then (some 0) else (if 126 < y then (some 0) else (some 1))) : Option Int32).bind fun j9 => (if j9 = 0 then (some h) else (if 1000 ≤ (h.1 33 1) then (some h) else ((mm_ix (h.1 33 1) 1000).bind fun k22 => mm_let (mm_pI h 34 k22 (Int32.toUInt32 ((Int32.toUInt32 y % 65536).toInt32)).toUInt16.toUInt32.toInt32) fun h24 => mm_let (mm_pI h24 33 1 ((h24.1 33 1) + 1)) fun h26 => some h26)) : Option mm_H).bind K) = K (mp_addX y h) := by
  have e1 : (if y = 10 then (some 1) else (if y < 32 then (some 0) else (if 126 < y then (some 0) else (some 1))) : Option Int32) = some (if mp_sg y = true then 1 else 0) := by
    unfold mp_sg
    by_cases a : y = 10
    · simp [a]
    · by_cases b : y < 32
      · have := Int32.not_le.mpr b
        simp [a, b, this]
      · have b2 := Int32.not_lt.mp b
        by_cases c : 126 < y
        · have := Int32.not_le.mpr c
          simp [a, b, c, this]
        · have c2 := Int32.not_lt.mp c
          simp [a, b, c, b2, c2]
  rw [e1]
  unfold mp_addX
  by_cases hs : mp_sg y = true
  · by_cases hl : 1000 ≤ h.1 33 1
    · have := Int32.not_lt.mpr hl
      simp [hs, hl, this]
    · have hl2 := Int32.not_le.mp hl
      have hr : 0 ≤ y ∧ y ≤ 126 := by
        have hs2 : y = 10 ∨ (32 ≤ y ∧ y ≤ 126) := by simpa [mp_sg] using hs
        rcases hs2 with rfl | ⟨q1, q2⟩
        · exact ⟨by decide, by decide⟩
        · exact ⟨Int32.le_trans (by decide) q1, q2⟩
      have hix : (h.1 33 1).toNatClampNeg < 1000 := by
        have q1 := Int32.lt_iff_toInt_lt.mp hl2
        have q2 : (1000 : Int32).toInt = 1000 := by decide
        rw [q2] at q1
        show (h.1 33 1).toInt.toNat < 1000
        omega
      rw [mp_ix_of h0 hix, mp_char hr.1 hr.2]
      simp only [hs, hl, hl2, and_self, if_true, if_false, Option.bind_some, mm_let]
      simp [mp_I1]
  · simp [hs]
