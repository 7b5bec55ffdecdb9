/-! CLASS AND REFERENCE SIDE BY SIDE: the smallest questions, where the counts agree -/
/-- the town cell t and the reference's town row have as many people and secrets -/
def mp_cnt (t : Nat) (h : mm_H) : Prop := mm_tg t = 7 ∧ h.1 t 0 = h.1 263 0 ∧ h.1 t 6 = h.1 263 1
theorem mp_hasPerson {t : Nat} {h : mm_H} (c : mp_cnt t h) (x : Int32) : f_To_hasPerson t x h = f_M_isPerson x h := by
  unfold f_To_hasPerson f_M_isPerson
  rw [if_pos c.1, c.2.1]
theorem mp_hasSecret {t : Nat} {h : mm_H} (c : mp_cnt t h) (x : Int32) : f_To_hasSecret t x h = f_M_isSecret x h := by
  unfold f_To_hasSecret f_M_isSecret
  rw [if_pos c.1, c.2.2]
theorem mp_hasPair {t : Nat} {h : mm_H} (c : mp_cnt t h) (x y : Int32) : f_To_hasPair t x y h = f_M_areTwo x y h := by
  unfold f_To_hasPair f_M_areTwo
  rw [if_pos c.1, mp_hasPerson c, mp_hasPerson c]
theorem mp_allSecrets {t : Nat} {h : mm_H} (c : mp_cnt t h) : f_To_allSecrets t h = f_M_allSecrets h := by
  unfold f_To_allSecrets f_M_allSecrets
  rw [if_pos c.1, c.2.2]
theorem mp_isPerson (x : Int32) (h : mm_H) : f_M_isPerson x h = some (if 0 ≤ x ∧ x < h.1 263 0 then 1 else 0) := by
  unfold f_M_isPerson
  by_cases h1 : x < 0
  · rw [if_pos h1, if_neg (fun q => absurd q.1 (Int32.not_le.mpr h1))]
  · by_cases h2 : h.1 263 0 ≤ x
    · rw [if_neg h1, if_pos h2, if_neg (fun q => absurd h2 (Int32.not_le.mpr q.2))]
    · rw [if_neg h1, if_neg h2, if_pos ⟨Int32.not_lt.mp h1, Int32.not_le.mp h2⟩]
theorem mp_isSecret (x : Int32) (h : mm_H) : f_M_isSecret x h = some (if 0 ≤ x ∧ x < h.1 263 1 then 1 else 0) := by
  unfold f_M_isSecret
  by_cases h1 : x < 0
  · rw [if_pos h1, if_neg (fun q => absurd q.1 (Int32.not_le.mpr h1))]
  · by_cases h2 : h.1 263 1 ≤ x
    · rw [if_neg h1, if_pos h2, if_neg (fun q => absurd h2 (Int32.not_le.mpr q.2))]
    · rw [if_neg h1, if_neg h2, if_pos ⟨Int32.not_lt.mp h1, Int32.not_le.mp h2⟩]
theorem mp_within (v a b : Int32) : f_M_within v a b = some (if a ≤ v ∧ v ≤ b then 1 else 0) := by
  unfold f_M_within
  by_cases h1 : v < a
  · rw [if_pos h1, if_neg (fun q => absurd q.1 (Int32.not_le.mpr h1))]
  · by_cases h2 : b < v
    · rw [if_neg h1, if_pos h2, if_neg (fun q => absurd q.2 (Int32.not_le.mpr h2))]
    · rw [if_neg h1, if_neg h2, if_pos ⟨Int32.not_lt.mp h1, Int32.not_lt.mp h2⟩]
theorem mp_max (a b : Int32) : f_JM_max a b = some (if a < b then b else a) := by
  unfold f_JM_max
  split <;> rfl
theorem mp_min (a b : Int32) : f_JM_min a b = some (if b < a then b else a) := by
  unfold f_JM_min
  split <;> rfl
theorem mp_lcmp (x y : Int64) : lg_cmp x y = 0 ↔ x = y := by
  unfold lg_cmp
  by_cases h1 : x > y
  · rw [if_pos h1]
    refine ⟨fun q => absurd q (by decide), fun q => ?_⟩
    subst q
    exact absurd h1 (Int64.lt_irrefl)
  · rw [if_neg h1]
    by_cases h2 : x = y
    · rw [if_pos h2]; exact ⟨fun _ => h2, fun _ => rfl⟩
    · rw [if_neg h2]; exact ⟨fun q => absurd q (by decide), fun q => absurd q h2⟩
