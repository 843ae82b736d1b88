/-! ENGINE, part 7: Math.max, Math.min -/
theorem i32_max {x y : Int} (hx : okv (.inl x)) (hy : okv (.inl y)) : (if Int32.ofInt x < Int32.ofInt y then Int32.ofInt y else Int32.ofInt x) = Int32.ofInt (max x y) := by
  by_cases h : x < y
  · rw [if_pos ((i32_lt hx hy).mpr h), Int.max_eq_right (by omega)]
  · rw [if_neg (fun z => h ((i32_lt hx hy).mp z)), Int.max_eq_left (by omega)]
theorem i32_min {x y : Int} (hx : okv (.inl x)) (hy : okv (.inl y)) : (if Int32.ofInt y < Int32.ofInt x then Int32.ofInt y else Int32.ofInt x) = Int32.ofInt (min x y) := by
  by_cases h : y < x
  · rw [if_pos ((i32_lt hy hx).mpr h), Int.min_eq_right (by omega)]
  · rw [if_neg (fun z => h ((i32_lt hy hx).mp z)), Int.min_eq_left (by omega)]
theorem mmw : Cond.static Lib.Math.max.name ∈ gtbl ∧ Cond.initialized "java/lang/Math" ∈ gtbl ∧ Cond.code Lib.Math.max.name Lib.Math.max.code 2 (some .int) ∈ gtbl ∧ Cond.static Lib.Math.min.name ∈ gtbl ∧ Cond.code Lib.Math.min.name Lib.Math.min.code 2 (some .int) ∈ gtbl := by decide +kernel
theorem s_mmax {M : MI} {pc : Nat} {lv : List (Nat × AV)} {rest : List AV} {h : Hp} {Q : Option AV → Hp → Prop} {x y : Int} {idx : Nat} (hd : decode M.2.1 pc = .ok (.invokestatic idx, 3)) (hlk : Cond.methodLink M.2.2.2.2.1 idx Lib.Math.max.name ∈ gtbl) (hlv : 1 ≤ M.2.2.2.2.2) (hrm : (rest.map cat).sum ≤ 8) (k : Go M (pc + 3) lv (.inl (max x y) :: rest) h Q) : Go M pc lv (.inl y :: .inl x :: rest) h Q := by
  obtain ⟨r, h', q, e1, e2, S⟩ := k
  refine ⟨r, h', q, e1, e2, ?_⟩
  intro base b D cA p l e R s m args below meth c H locs N0 S0 ls Qf C oh rl hn hss hRm hl ol os hlo hf
  have r1 := hRm.1
  have r2 := hRm.2.1
  have r3 := hRm.2.2.1
  have r4 := hRm.2.2.2
  have hx := ok_hd (ok_tl os)
  have hy := ok_hd os
  have K := S base b D cA p l e R s m args below meth c H locs N0 S0 ls Qf C oh rl hn hss hRm hl ol (ok_cons (show okv (.inl (max x y)) from ⟨by have := hx.1; have := hy.1; omega, by have := hx.2; have := hy.2; omega⟩) (ok_tl (ok_tl os))) hlo hf
  rw [List.map_cons, show rv (ga base b) (.inl (max x y)) = .int (if Int32.ofInt x < Int32.ofInt y then Int32.ofInt y else Int32.ofInt x) from congrArg Value.int (i32_max hx hy).symm] at K
  refine va_mmax C.1 C.2.1 (by rw [C.2.2.1]; exact hl.1.symm) C.2.2.2.1 (C.2.2.2.2.1 _ hlk) (C.2.2.2.2.1 _ mmw.1) (C.2.2.2.2.1 _ mmw.2.1) (C.2.2.2.2.1 _ mmw.2.2.1) (by omega) ?_ (by omega) (by omega) hd K
  rw [List.map_map, show ((fun v : Value => v.category) ∘ rv (ga base b)) = cat from funext (cat_rv _)]
  omega
theorem s_mmin {M : MI} {pc : Nat} {lv : List (Nat × AV)} {rest : List AV} {h : Hp} {Q : Option AV → Hp → Prop} {x y : Int} {idx : Nat} (hd : decode M.2.1 pc = .ok (.invokestatic idx, 3)) (hlk : Cond.methodLink M.2.2.2.2.1 idx Lib.Math.min.name ∈ gtbl) (hlv : 1 ≤ M.2.2.2.2.2) (hrm : (rest.map cat).sum ≤ 8) (k : Go M (pc + 3) lv (.inl (min x y) :: rest) h Q) : Go M pc lv (.inl y :: .inl x :: rest) h Q := by
  obtain ⟨r, h', q, e1, e2, S⟩ := k
  refine ⟨r, h', q, e1, e2, ?_⟩
  intro base b D cA p l e R s m args below meth c H locs N0 S0 ls Qf C oh rl hn hss hRm hl ol os hlo hf
  have r1 := hRm.1
  have r2 := hRm.2.1
  have r3 := hRm.2.2.1
  have r4 := hRm.2.2.2
  have hx := ok_hd (ok_tl os)
  have hy := ok_hd os
  have K := S base b D cA p l e R s m args below meth c H locs N0 S0 ls Qf C oh rl hn hss hRm hl ol (ok_cons (show okv (.inl (min x y)) from ⟨by have := hx.1; have := hy.1; omega, by have := hx.2; have := hy.2; omega⟩) (ok_tl (ok_tl os))) hlo hf
  rw [List.map_cons, show rv (ga base b) (.inl (min x y)) = .int (if Int32.ofInt y < Int32.ofInt x then Int32.ofInt y else Int32.ofInt x) from congrArg Value.int (i32_min hx hy).symm] at K
  refine va_mmin C.1 C.2.1 (by rw [C.2.2.1]; exact hl.1.symm) C.2.2.2.1 (C.2.2.2.2.1 _ hlk) (C.2.2.2.2.1 _ mmw.2.2.2.1) (C.2.2.2.2.1 _ mmw.2.1) (C.2.2.2.2.1 _ mmw.2.2.2.2) (by omega) ?_ (by omega) (by omega) hd K
  rw [List.map_map, show ((fun v : Value => v.category) ∘ rv (ga base b)) = cat from funext (cat_rv _)]
  omega
