/-! THE MEMORY: cells by number, in the order the law makes them (words 0 to 27, the array of words 28, the text of signs 29, its bytes 30, then from 32 on), each with slots; ints, longs, references apart -/
abbrev mm_H : Type := (Nat → Nat → Int32) × (Nat → Nat → Int64) × (Nat → Nat → Option Nat)
/-- where a cell lies, the classes' numbers by tag, the slots of a class's fields, the script's length and ints -/
abbrev mm_V : Type := (Nat → Nat) × (Nat → ClassId) × (Nat → Nat → Nat) × Nat × (Nat → Int32)
abbrev mm_Y : Type := MethodName × ByteArray × Nat × Option FieldType
abbrev mm_cl : List vw_C := [(RX0, TX0, 3), (RX1, TX1, 3), (RX3, TX3, 3), (RX4, TX4, 4), (RX5, TX5, 10), (RX6, TX6, 8), (RX7, TX7, 10), (RX8, TX8, 20), (RX11, TX11, 20), (RX12, TX12, 70)]
def mm_L : List (Nat × Nat) := [(8, 20), (6, 10), (22, 1000), (4, 10), (20, 10), (21, 6), (20, 6), (20, 6), (20, 6), (4, 10), (20, 10), (21, 6), (20, 6), (20, 6), (20, 6), (5, 8), (20, 30), (20, 30), (20, 30), (20, 30), (20, 10), (20, 10), (5, 8), (20, 30), (20, 30), (20, 30), (20, 30), (20, 10), (20, 10), (24, 16), (24, 4), (25, 4), (0, 3), (20, 1024), (21, 1024), (20, 64), (1, 3), (20, 3), (20, 3), (3, 4), (21, 64), (21, 64), (21, 6), (20, 7), (20, 10), (20, 70), (20, 4), (7, 20), (21, 6), (20, 6), (20, 6), (20, 6), (21, 10), (20, 10), (20, 10), (20, 10), (20, 10), (20, 30), (20, 30), (20, 36), (20, 10), (2, 3), (20, 1000), (20, 24), (7, 20), (21, 6), (20, 6), (20, 6), (20, 6), (21, 10), (20, 10), (20, 10), (20, 10), (20, 10), (20, 30), (20, 30), (20, 36), (20, 10), (2, 3), (20, 1000), (20, 24), (4, 10), (20, 10), (21, 6), (20, 6), (20, 6), (20, 6), (4, 10), (20, 10), (21, 6), (20, 6), (20, 6), (20, 6), (4, 10), (20, 10), (21, 6), (20, 6), (20, 6), (20, 6), (4, 10), (20, 10), (21, 6), (20, 6), (20, 6), (20, 6), (4, 10), (20, 10), (21, 6), (20, 6), (20, 6), (20, 6), (4, 10), (20, 10), (21, 6), (20, 6), (20, 6), (20, 6), (4, 10), (20, 10), (21, 6), (20, 6), (20, 6), (20, 6), (4, 10), (20, 10), (21, 6), (20, 6), (20, 6), (20, 6), (4, 10), (20, 10), (21, 6), (20, 6), (20, 6), (20, 6), (4, 10), (20, 10), (21, 6), (20, 6), (20, 6), (20, 6), (4, 10), (20, 10), (21, 6), (20, 6), (20, 6), (20, 6), (4, 10), (20, 10), (21, 6), (20, 6), (20, 6), (20, 6), (4, 10), (20, 10), (21, 6), (20, 6), (20, 6), (20, 6), (4, 10), (20, 10), (21, 6), (20, 6), (20, 6), (20, 6), (4, 10), (20, 10), (21, 6), (20, 6), (20, 6), (20, 6), (4, 10), (20, 10), (21, 6), (20, 6), (20, 6), (20, 6), (4, 10), (20, 10), (21, 6), (20, 6), (20, 6), (20, 6), (5, 8), (20, 30), (20, 30), (20, 30), (20, 30), (20, 10), (20, 10), (4, 10), (20, 10), (21, 6), (20, 6), (20, 6), (20, 6), (5, 8), (20, 30), (20, 30), (20, 30), (20, 30), (20, 10), (20, 10), (4, 10), (20, 10), (21, 6), (20, 6), (20, 6), (20, 6), (5, 8), (20, 30), (20, 30), (20, 30), (20, 30), (20, 10), (20, 10), (4, 10), (20, 10), (21, 6), (20, 6), (20, 6), (20, 6), (5, 8), (20, 30), (20, 30), (20, 30), (20, 30), (20, 10), (20, 10), (9, 70), (20, 1000), (20, 8), (21, 12), (21, 20), (20, 12), (20, 12), (20, 12), (20, 20), (20, 20), (20, 20), (20, 20), (20, 20), (20, 20), (20, 60), (20, 60), (20, 60), (20, 2), (20, 2), (20, 2000), (20, 7), (23, 7), (20, 7), (20, 7), (20, 7), (20, 7), (20, 7), (20, 7), (20, 7), (20, 7), (20, 7), (20, 20), (20, 6), (20, 180), (20, 180), (20, 180), (20, 180), (20, 5), (20, 50), (23, 50), (20, 123), (20, 246), (20, 492), (20, 1968), (23, 4), (23, 65536), (23, 6144), (20, 2), (20, 2), (20, 64), (20, 64), (20, 6), (20, 64), (20, 3), (20, 3), (21, 1)]
def mm_tg (a : Nat) : Nat := if a < 28 then 30 else if a = 28 then 31 else if a < 32 then 32 else (mm_L.getD (a - 32) (99, 0)).1
def mm_ln (a : Nat) : Nat := if a < 32 then 28 else (mm_L.getD (a - 32) (99, 0)).2
def mm_nf (t : Nat) : Nat := (mm_cl.getD t (RX0, TX0, 0)).2.2
def mm_ty (t k : Nat) : FieldType := match t with
  | 0 => tyX0 k | 1 => tyX1 k | 2 => tyX3 k | 3 => tyX4 k | 4 => tyX5 k | 5 => tyX6 k | 6 => tyX7 k | 7 => tyX8 k | 8 => tyX11 k | 9 => tyX12 k
  | 20 => .int | 21 => .long | 22 => .char | 23 => .boolean | 24 => .object "PaidSecrets$State" | 25 => .object "PaidSecrets$Talk" | _ => .int
def mm_kd (t : FieldType) : Nat := match t with
  | .long => 1 | .object _ => 2 | .array _ => 2 | _ => 0
/-- the references that change: here, draft, word; all others lie where the layout has them -/
def mm_mu (t k : Nat) : Bool := (t == 8 && (k == 14 || k == 15)) || (t == 6 && k == 7)
def mm_of (t k : Nat) : Nat := (([[1, 2, 3], [1, 2, 0], [1, 2, 0], [1, 2, 3, 4], [1, 2, 3, 4, 5, 0, 0, 0, 0, 0], [0, 1, 2, 3, 4, 0, 5, 6], [1, 0, 0, 0, 0, 0, 0, 0, 0, 0], [0, 1, 2, 3, 4, 0, 0, 5, 0, 6, 7, 8, 9, 0, 10, 11, 12, 0, 13, 14], [1, 3, 9, 15, 22, 29, 30, 31, 32, 36, 39, 44, 45, 46, 47, 64, 0, 0, 0, 0], [0, 0, 1, 0, 0, 0, 0, 0, 0, 0, 2, 3, 4, 5, 6, 7, 8, 9, 10, 11, 12, 13, 14, 15, 16, 17, 18, 19, 0, 20, 21, 22, 23, 24, 25, 26, 27, 28, 29, 30, 31, 0, 32, 33, 34, 35, 36, 37, 38, 39, 40, 41, 42, 43, 44, 0, 45, 46, 47, 48, 0, 0, 49, 50, 51, 52, 53, 54, 0, 0]] : List (List Nat)).getD t []).getD k 0
def mm_ad (a k : Nat) : Nat := if mm_tg a < 20 then a + mm_of (mm_tg a) k else if a = 61 then 113 + 6 * k else if a = 62 then 209 + 13 * k else 215 + 13 * k
def mm_rf (h : mm_H) (a k : Nat) : Option Nat := if mm_mu (mm_tg a) k = true then h.2.2 a k else some (mm_ad a k)
def mm_val (h : mm_H) (a k : Nat) : Value := match mm_kd (mm_ty (mm_tg a) k) with
  | 0 => .int (h.1 a k) | 1 => .long (h.2.1 a k) | _ => va_rf (mm_rf h a k)
def mm_rv (V : mm_V) (v : Value) : Value := match v with
  | .ref i => .ref (V.1 i) | w => w
def mm_lp (V : mm_V) (q : Nat × Value) : Nat × Value := (q.1, mm_rv V q.2)
def mm_C (V : mm_V) (h : mm_H) (a : Nat) (H : Heap) : Prop :=
  if mm_tg a < 20 then t_OB (V.1 a) (V.2.1 (mm_tg a)) (mm_nf (mm_tg a)) (V.2.2.1 (mm_tg a)) H (fun k => mm_rv V (mm_val h a k))
  else H[V.1 a]? = some (arrV (V.2.1 (mm_tg a)) (mm_ln a) (fun k => mm_rv V (mm_val h a k)))
def mm_n0 : Nat := 317
def mm_P (V : mm_V) (h : mm_H) (H : Heap) : Prop := ∀ a, 32 ≤ a → a < mm_n0 → mm_C V h a H
def mm_Vok (V : mm_V) : Prop := (∀ a, 32 ≤ a → V.1 a = V.1 32 + (a - 32)) ∧ (∀ i j, i < 28 → j < 28 → V.1 i = V.1 j → i = j) ∧ ∀ i, i < 32 → V.1 i < V.1 32
def mm_fr (V : mm_V) : Nat → Prop := fun q => V.1 32 ≤ q
abbrev mm_tys (V : mm_V) : List (ClassId × FieldType) := [(V.2.1 20, .int), (V.2.1 21, .long), (V.2.1 22, .char), (V.2.1 23, .boolean), (V.2.1 24, .object "PaidSecrets$State"), (V.2.1 25, .object "PaidSecrets$Talk")]
theorem mm_Vok.inj {V : mm_V} (h : mm_Vok V) {a b : Nat} (ha : a < 28 ∨ 32 ≤ a) (hb : b < 28 ∨ 32 ≤ b) (e : V.1 a = V.1 b) : a = b := by
  obtain ⟨h1, h2, h3⟩ := h
  rcases ha with ha | ha <;> rcases hb with hb | hb
  · exact h2 a b ha hb e
  · have := h3 a (by omega); have := h1 b (by omega); omega
  · have := h3 b (by omega); have := h1 a (by omega); omega
  · have := h1 a (by omega); have := h1 b (by omega); omega
theorem mm_Vok.fr {V : mm_V} (h : mm_Vok V) {a : Nat} (ha : 32 ≤ a) : mm_fr V (V.1 a) := by
  have := h.1 a ha
  show V.1 32 ≤ V.1 a
  omega
theorem mm_tg_lt {a t : Nat} (h : mm_tg a = t) (ht : t < 26) : 32 ≤ a ∧ a < mm_n0 := by
  unfold mm_tg at h
  split at h
  · omega
  · split at h
    · omega
    · split at h
      · omega
      · refine ⟨by omega, ?_⟩
        rw [List.getD_eq_getElem?_getD] at h
        by_cases hl : a - 32 < mm_L.length
        · have : mm_L.length = 285 := by decide +kernel
          unfold mm_n0; omega
        · rw [List.getElem?_eq_none (by omega)] at h
          simp at h
          omega
/-- the words that every method may use -/
def mm_gw : List Cond := lw_tbl.filter goodWord
theorem mm_gw_in {w : Cond} (h : w ∈ lw_tbl) (hg : goodWord w = true) : w ∈ mm_gw := List.mem_filter.mpr ⟨h, hg⟩
theorem mm_gw_good {y : Cond} (hy : y ∈ mm_gw) : GoodIn mm_gw (y :: mm_gw) := by
  intro w hw
  rcases List.mem_cons.mp hw with rfl | h
  · exact ⟨hy, good_of_word (List.mem_filter.mp hy).2⟩
  · exact ⟨h, good_of_word (List.mem_filter.mp h).2⟩
def mm_nw : List Cond := lw_tbl.filter (fun w => match w with | .methodLinkNest .. => true | .fieldLinkNest .. => true | _ => false)
theorem mm_nw_move {s U : State} (hW : s.WarmedH U.vm) (h : ∀ w ∈ mm_nw, va_Nw w s) : ∀ w ∈ mm_nw, va_Nw w U := by
  intro w hw
  have h1 := h w hw
  have h2 := (List.mem_filter.mp hw).2
  cases w <;> first | exact va_Nw.warmM hW h1 | exact va_Nw.warmF hW h1 | (exact absurd h2 (by simp))
def mm_wn (j : Nat) : String := (["PERSON", "RANK", "TAX", "SECRET", "OF", "COSTS", "ON", "BY", "EAR", "CLASH", "WORTH", "TELL", "PAY", "RISE", "QUARTER", "PLAIN", "GOSSIP", "DEAF", "PRIEST", "TRUE", "FALSE", "NOT", "AND", "OR", "COST", "KNOWERS", "AGE", "HIGH"] : List String).getD j ""
def mm_wc (j : Nat) : Int64 := ([542723566, 591307, 20536, 642894004, 486, 3657363, 494, 89, 5170, 3540584, 24627848, 660876, 16441, 599653, 18959913138, 17171758, 251252016, 136230, 556045940, 674469, 6337125, 14836, 1476, 498, 114292, 12297410131, 1253, 271592] : List Int64).getD j 0
def mm_wf (j : Nat) : Int32 := ([0, 0, 0, 0, 0, 0, 0, 0, 0, 0, 0, 0, 0, 0, 0, 0, 0, 0, 0, 0, 0, 0, 0, 0, -1, -2, -3, -4] : List Int32).getD j 0
/-- the text of the signs (cell 29), its bytes (cell 30), the JDK's constant of compact texts, the script (cell 31) -/
def mm_byt : List Int32 := [40, 41, 60, 61, 43, 45, 42, 59]
def mm_Str (V : mm_V) (U : State) (H : Heap) : Prop := vk_R "PaidSecrets$Tape" 55 "()<=+-*;" (V.1 29) U ∧ vk_S 1 [8] [mm_byt] (fun _ => V.1 29) (fun _ => V.1 30) (mm_fr V) U H ∧ va_Z "java/lang/String" "COMPACT_STRINGS" "Z" (.int 1) (mm_fr V) U H ∧ va_T .int (V.1 31) V.2.2.2.1 (fun j => .int (V.2.2.2.2 j)) (mm_fr V) U H
/-- the constants: the words of the language, their array, what they hold -/
def mm_St (V : mm_V) (U : State) (H : Heap) : Prop :=
  (∀ j, j < 28 → va_Z "PaidSecrets$Word" (mm_wn j) "LPaidSecrets$Word;" (.ref (V.1 j)) (mm_fr V) U H) ∧
  va_Z "PaidSecrets" "WORDS" "[LPaidSecrets$Word;" (.ref (V.1 28)) (mm_fr V) U H ∧
  (∀ j, j < 28 → va_OF "PaidSecrets$Word" "code" "J" (.long (mm_wc j)) (V.1 j) (mm_fr V) U H ∧ va_OF "PaidSecrets$Word" "fact" "I" (.int (mm_wf j)) (V.1 j) (mm_fr V) U H) ∧
  va_T (.object "PaidSecrets$Word") (V.1 28) 28 (fun j => .ref (V.1 j)) (mm_fr V) U H ∧ mm_Str V U H
/-- what every method finds: the tables as the kit knows them, nest mates, constants -/
def mm_E (V : mm_V) (U : State) (H : Heap) : Prop := mm_Vok V ∧ va_K (V.2.1, V.2.2.1) mm_cl (mm_tys V) U ∧ (∀ w ∈ mm_nw, va_Nw w U) ∧ mm_St V U H

