/-! more rules -/
section HMD
variable {V : mm_V} {l : Launch} {Y : mm_Y} {d : Nat} {pc : Nat} {lv : List (Nat × Value)} {h : mm_H} {Q : Option Value → mm_H → Prop}
theorem MM.nret {x : Int32} {ty : FieldType} (hx : narrow ty (.int x) = .int x) (hr : Y.2.2.2 = some ty) (hd : decode Y.2.1 pc = .ok (.ireturn, 1)) (hQ : Q (some (.int x)) h) : MM V l Y d 0 0 (mm_Z V Q) pc lv [.int x] h := by
  intro p e R s m args below meth c H locs ls F hl hP hS
  exact W.zret F.1 F.2.1 (F.2.2.1.trans hr) hx (fun t ht hW => ⟨⟨some (.int x), h, rfl, hQ, by rw [ht]; exact hP⟩, hS.F ht⟩) hS.2.2 hd F.2.2.2.1
end HMD
