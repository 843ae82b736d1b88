/-! ENGINE, part 5: new cells, arraycopy, ends, calls -/
theorem al_N (h : Hp) (kd : Nat) (n : Int) (sl : Nat) : hN (al h kd n sl) = hN h + 1 := rfl
theorem al_S (h : Hp) (kd : Nat) (n : Int) (sl : Nat) : hS (al h kd n sl) = hS h + sl := rfl
theorem al_K {h : Hp} {kd : Nat} {n : Int} {sl : Nat} : hK (al h kd n sl) (hN h) = kd := if_pos rfl
theorem al_L {h : Hp} {kd : Nat} {n : Int} {sl : Nat} : hL (al h kd n sl) (hN h) = n := if_pos rfl
theorem al_I {h : Hp} {kd : Nat} {n : Int} {sl : Nat} (j : Int) : hI (al h kd n sl) (hN h) j = 0 := if_pos rfl
theorem al_R {h : Hp} {kd : Nat} {n : Int} {sl : Nat} (j : Int) : hR (al h kd n sl) (hN h) j = 0 := if_pos rfl
theorem al_push {base b : Nat} {D : va_G} {cA : Nat → ClassId} {s : State} {h : Hp} {H H' : Heap} {kd : Nat} {n : Int} {sl : Nat} (x : Rel base b D cA s h H) (oh : okH h) (hb : b < base) (sz : H'.size = H.size + 1) (oq : ∀ q, q < H.size → H'[q]? = H[q]?) (hc : cellR D cA (ga base b) (al h kd n sl) (hN h) H') : Rel base b D cA s (al h kd n sl) H' :=
  x.push oh rfl (fun k hk => if_neg hk) (fun k hk => if_neg hk) (fun k j hk => if_neg hk) (fun k j hk => if_neg hk) hb sz oq hc
theorem def_fv (ty : FieldType) (g : Nat → Nat) (hp : ty = .int ∨ ty = .boolean ∨ isRT ty = true) : defaultValue ty = if isRT ty = true then rr g 0 else .int (Int32.ofInt 0) := by
  rcases hp with rfl | rfl | hp
  · rfl
  · rfl
  · rw [if_pos hp]
    cases ty <;> first | (exact absurd hp (by decide)) | rfl
set_option maxRecDepth 100000 in
theorem cls_ty : ∀ (ci : Nat) (r : vw_C), vwCl[ci]? = some r → ∀ j, j < r.2.2 → (tyOf ci j = .int ∨ tyOf ci j = .boolean ∨ isRT (tyOf ci j) = true) := by
  intro ci r hr
  match ci, hr with
  | 0, hr => cases hr; decide +kernel
  | 1, hr => cases hr; decide +kernel
  | 2, hr => cases hr; decide +kernel
  | 3, hr => cases hr; decide +kernel
  | 4, hr => cases hr; decide +kernel
  | 5, hr => cases hr; decide +kernel
  | 6, hr => cases hr; decide +kernel
  | 7, hr => cases hr; decide +kernel
  | 8, hr => cases hr; decide +kernel
  | 9, hr => cases hr; decide +kernel
  | 10, hr => cases hr; decide +kernel
  | 11, hr => cases hr; decide +kernel
  | n + 12, hr => simp [vwCl] at hr

theorem s_new {M : MI} {pc : Nat} {lv : List (Nat × AV)} {st : List AV} {h : Hp} {Q : Option AV → Hp → Prop} {ci idx : Nat} {r0 : vw_C} (hd : decode M.2.1 pc = .ok (.new idx, 3)) (hc : vwCl[ci]? = some r0) (hlk : Cond.classLink M.2.2.2.2.1 idx r0.1 ∈ gtbl) (k : Go M (pc + 3) lv (.inr (.inr (hN h)) :: st) (al h ci 0 r0.2.2) Q) : Go M pc lv st h Q := by
  refine Go.of2 k (Nat.le_succ _) (Nat.le_add_right _ _) fun r h' hle1 hle2 S => ?_
  intro base b D cA p l e R s m args below meth c H locs N0 S0 ls Qf C oh rl hn hss hRm hl ol os hlo hf
  have hci := cls_lt hc
  obtain ⟨q1, q2, q3, q4, q5⟩ := cls_ok _ _ hc
  have hKn := C.2.2.2.2.2.2.2.2.1.1.1 _ _ hc
  have r3 := hRm.2.2.1
  have r4 := hRm.2.2.2
  rw [al_N] at hle1
  rw [al_S] at hle2
  refine W.newcK C.1 C.2.1 C.2.2.2.1 (C.2.2.2.2.1 _ hlk) (C.2.2.2.2.1 _ q4) (C.2.2.2.2.1 _ q5) rfl hd (by omega) (by omega) hKn.2.1 rfl fun H1 kC hkC e1 z1 o1 => ?_
  have h2 := oh.1
  have eg : H.size = ga base b (hN h) := by have z := rl.1; have z2 := oh.1; rw [ga_2 z2]; omega
  refine W.cs (cells' := hN (al h ci 0 r0.2.2) - N0) (slots' := hS (al h ci 0 r0.2.2) - S0) (by rw [al_N]; omega) (by rw [al_S]; omega) ?_
  have K := S base b D cA p l e R s m args below meth c H1 locs N0 S0 ls Qf C (okH_al (kd := ci) (sl := r0.2.2) oh ⟨Int.le_refl 0, by omega⟩) (al_push rl oh C.2.2.2.2.2.2.2.2.2 z1 o1 ?_) (by rw [al_N]; omega) (by rw [al_S]; omega) hRm hl ol (ok_cons trivial os) hlo hf
  · rw [List.map_cons, rv_ref (by omega : hN h ≠ 0), ← eg] at K
    exact K
  · refine ⟨fun r hr => ?_, fun z1 z2 => absurd z1 (by rw [al_K]; omega), fun z1 z2 => absurd z1 (by rw [al_K]; omega)⟩
    rw [al_K] at hr ⊢
    have er : r = r0 := Option.some.inj (hr.symm.trans hc)
    subst er
    rw [← eg]
    refine (u_born (tyOf ci) C.2.2.2.2.1 q1 hKn hkC e1 q2).to (fun j hj => ?_)
    unfold fv
    rw [al_K, al_R, al_I]
    exact def_fv (tyOf ci j) (ga base b) (cls_ty _ _ hc j hj)
theorem s_newi {M : MI} {pc : Nat} {lv : List (Nat × AV)} {st : List AV} {h : Hp} {Q : Option AV → Hp → Prop} {n : Int} (hd : decode M.2.1 pc = .ok (.newarray .int, 2)) (hac : Cond.arrayClass .int ∈ gtbl) (h0 : 0 ≤ n) (h1 : n ≤ 100000000) (k : Go M (pc + 2) lv (.inr (.inr (hN h)) :: st) (al h 12 n n.toNat) Q) : Go M pc lv (.inl n :: st) h Q := by
  refine Go.of2 k (Nat.le_succ _) (Nat.le_add_right _ _) fun r h' hle1 hle2 S => ?_
  intro base b D cA p l e R s m args below meth c H locs N0 S0 ls Qf C oh rl hn hss hRm hl ol os hlo hf
  have r3 := hRm.2.2.1
  have r4 := hRm.2.2.2
  rw [al_N] at hle1
  rw [al_S] at hle2
  have hn1 : ¬ Int32.ofInt n < 0 := fun z => by
    have := (i32_lt (ok_hd os) (show okv (.inl 0) from ⟨by omega, by omega⟩)).mp z
    omega
  refine va_newaK (atype := .int) (N := n.toNat) C.1 C.2.1 (C.2.2.2.2.1 _ hac) rfl hd rfl hn1 (i32_clamp h0 (by omega)) (by show n.toNat * 4 ≤ 536870912; omega) (by omega) (by omega) rfl fun H1 cB e1 z1 o1 hA1 hNm => ?_
  have hcA : cB = cA 12 := by
    have h3 := (C.2.2.2.2.2.2.2.2.1.arr 0 rfl).2
    exact Option.some.inj (hNm.symm.trans h3)
  subst hcA
  have h2 := oh.1
  have eg : H.size = ga base b (hN h) := by have z := rl.1; have z2 := oh.1; rw [ga_2 z2]; omega
  refine W.cs (cells' := hN (al h 12 n n.toNat) - N0) (slots' := hS (al h 12 n n.toNat) - S0) (by rw [al_N]; omega) (by rw [al_S]; omega) ?_
  have K := S base b D cA p l e R s m args below meth c H1 locs N0 S0 ls Qf C (okH_al (kd := 12) (sl := n.toNat) oh ⟨h0, by omega⟩) (al_push rl oh C.2.2.2.2.2.2.2.2.2 z1 o1 ?_) (by rw [al_N]; omega) (by rw [al_S]; omega) hRm hl ol (ok_cons trivial (ok_tl os)) hlo hf
  · rw [List.map_cons, rv_ref (by omega : hN h ≠ 0), ← eg] at K
    exact K
  · refine ⟨fun r hr => absurd (cls_lt hr) (by rw [al_K]; omega), fun z1 z2 => ?_, fun z1 z2 => absurd z1 (by rw [al_K]; omega)⟩
    rw [al_K, al_L, ← eg, e1]
    simp only [al_I]
    rfl
theorem s_newb {M : MI} {pc : Nat} {lv : List (Nat × AV)} {st : List AV} {h : Hp} {Q : Option AV → Hp → Prop} {n : Int} (hd : decode M.2.1 pc = .ok (.newarray .byte, 2)) (hac : Cond.arrayClass .byte ∈ gtbl) (h0 : 0 ≤ n) (h1 : n ≤ 100000000) (k : Go M (pc + 2) lv (.inr (.inr (hN h)) :: st) (al h 13 n n.toNat) Q) : Go M pc lv (.inl n :: st) h Q := by
  refine Go.of2 k (Nat.le_succ _) (Nat.le_add_right _ _) fun r h' hle1 hle2 S => ?_
  intro base b D cA p l e R s m args below meth c H locs N0 S0 ls Qf C oh rl hn hss hRm hl ol os hlo hf
  have r3 := hRm.2.2.1
  have r4 := hRm.2.2.2
  rw [al_N] at hle1
  rw [al_S] at hle2
  have hn1 : ¬ Int32.ofInt n < 0 := fun z => by
    have := (i32_lt (ok_hd os) (show okv (.inl 0) from ⟨by omega, by omega⟩)).mp z
    omega
  refine va_newaK (atype := .byte) (N := n.toNat) C.1 C.2.1 (C.2.2.2.2.1 _ hac) rfl hd rfl hn1 (i32_clamp h0 (by omega)) (by show n.toNat * 1 ≤ 536870912; omega) (by omega) (by omega) rfl fun H1 cB e1 z1 o1 hA1 hNm => ?_
  have hcA : cB = cA 13 := by
    have h3 := (C.2.2.2.2.2.2.2.2.1.arr 1 rfl).2
    exact Option.some.inj (hNm.symm.trans h3)
  subst hcA
  have h2 := oh.1
  have eg : H.size = ga base b (hN h) := by have z := rl.1; have z2 := oh.1; rw [ga_2 z2]; omega
  refine W.cs (cells' := hN (al h 13 n n.toNat) - N0) (slots' := hS (al h 13 n n.toNat) - S0) (by rw [al_N]; omega) (by rw [al_S]; omega) ?_
  have K := S base b D cA p l e R s m args below meth c H1 locs N0 S0 ls Qf C (okH_al (kd := 13) (sl := n.toNat) oh ⟨h0, by omega⟩) (al_push rl oh C.2.2.2.2.2.2.2.2.2 z1 o1 ?_) (by rw [al_N]; omega) (by rw [al_S]; omega) hRm hl ol (ok_cons trivial (ok_tl os)) hlo hf
  · rw [List.map_cons, rv_ref (by omega : hN h ≠ 0), ← eg] at K
    exact K
  · refine ⟨fun r hr => absurd (cls_lt hr) (by rw [al_K]; omega), fun z1 z2 => ?_, fun z1 z2 => absurd z1 (by rw [al_K]; omega)⟩
    rw [al_K, al_L, ← eg, e1]
    simp only [al_I]
    rfl
theorem s_newc {M : MI} {pc : Nat} {lv : List (Nat × AV)} {st : List AV} {h : Hp} {Q : Option AV → Hp → Prop} {n : Int} (hd : decode M.2.1 pc = .ok (.newarray .char, 2)) (hac : Cond.arrayClass .char ∈ gtbl) (h0 : 0 ≤ n) (h1 : n ≤ 100000000) (k : Go M (pc + 2) lv (.inr (.inr (hN h)) :: st) (al h 14 n n.toNat) Q) : Go M pc lv (.inl n :: st) h Q := by
  refine Go.of2 k (Nat.le_succ _) (Nat.le_add_right _ _) fun r h' hle1 hle2 S => ?_
  intro base b D cA p l e R s m args below meth c H locs N0 S0 ls Qf C oh rl hn hss hRm hl ol os hlo hf
  have r3 := hRm.2.2.1
  have r4 := hRm.2.2.2
  rw [al_N] at hle1
  rw [al_S] at hle2
  have hn1 : ¬ Int32.ofInt n < 0 := fun z => by
    have := (i32_lt (ok_hd os) (show okv (.inl 0) from ⟨by omega, by omega⟩)).mp z
    omega
  refine va_newaK (atype := .char) (N := n.toNat) C.1 C.2.1 (C.2.2.2.2.1 _ hac) rfl hd rfl hn1 (i32_clamp h0 (by omega)) (by show n.toNat * 2 ≤ 536870912; omega) (by omega) (by omega) rfl fun H1 cB e1 z1 o1 hA1 hNm => ?_
  have hcA : cB = cA 14 := by
    have h3 := (C.2.2.2.2.2.2.2.2.1.arr 2 rfl).2
    exact Option.some.inj (hNm.symm.trans h3)
  subst hcA
  have h2 := oh.1
  have eg : H.size = ga base b (hN h) := by have z := rl.1; have z2 := oh.1; rw [ga_2 z2]; omega
  refine W.cs (cells' := hN (al h 14 n n.toNat) - N0) (slots' := hS (al h 14 n n.toNat) - S0) (by rw [al_N]; omega) (by rw [al_S]; omega) ?_
  have K := S base b D cA p l e R s m args below meth c H1 locs N0 S0 ls Qf C (okH_al (kd := 14) (sl := n.toNat) oh ⟨h0, by omega⟩) (al_push rl oh C.2.2.2.2.2.2.2.2.2 z1 o1 ?_) (by rw [al_N]; omega) (by rw [al_S]; omega) hRm hl ol (ok_cons trivial (ok_tl os)) hlo hf
  · rw [List.map_cons, rv_ref (by omega : hN h ≠ 0), ← eg] at K
    exact K
  · refine ⟨fun r hr => absurd (cls_lt hr) (by rw [al_K]; omega), fun z1 z2 => ?_, fun z1 z2 => absurd z1 (by rw [al_K]; omega)⟩
    rw [al_K, al_L, ← eg, e1]
    simp only [al_I]
    rfl
theorem s_newz {M : MI} {pc : Nat} {lv : List (Nat × AV)} {st : List AV} {h : Hp} {Q : Option AV → Hp → Prop} {n : Int} (hd : decode M.2.1 pc = .ok (.newarray .boolean, 2)) (hac : Cond.arrayClass .boolean ∈ gtbl) (h0 : 0 ≤ n) (h1 : n ≤ 100000000) (k : Go M (pc + 2) lv (.inr (.inr (hN h)) :: st) (al h 15 n n.toNat) Q) : Go M pc lv (.inl n :: st) h Q := by
  refine Go.of2 k (Nat.le_succ _) (Nat.le_add_right _ _) fun r h' hle1 hle2 S => ?_
  intro base b D cA p l e R s m args below meth c H locs N0 S0 ls Qf C oh rl hn hss hRm hl ol os hlo hf
  have r3 := hRm.2.2.1
  have r4 := hRm.2.2.2
  rw [al_N] at hle1
  rw [al_S] at hle2
  have hn1 : ¬ Int32.ofInt n < 0 := fun z => by
    have := (i32_lt (ok_hd os) (show okv (.inl 0) from ⟨by omega, by omega⟩)).mp z
    omega
  refine va_newaK (atype := .boolean) (N := n.toNat) C.1 C.2.1 (C.2.2.2.2.1 _ hac) rfl hd rfl hn1 (i32_clamp h0 (by omega)) (by show n.toNat * 1 ≤ 536870912; omega) (by omega) (by omega) rfl fun H1 cB e1 z1 o1 hA1 hNm => ?_
  have hcA : cB = cA 15 := by
    have h3 := (C.2.2.2.2.2.2.2.2.1.arr 3 rfl).2
    exact Option.some.inj (hNm.symm.trans h3)
  subst hcA
  have h2 := oh.1
  have eg : H.size = ga base b (hN h) := by have z := rl.1; have z2 := oh.1; rw [ga_2 z2]; omega
  refine W.cs (cells' := hN (al h 15 n n.toNat) - N0) (slots' := hS (al h 15 n n.toNat) - S0) (by rw [al_N]; omega) (by rw [al_S]; omega) ?_
  have K := S base b D cA p l e R s m args below meth c H1 locs N0 S0 ls Qf C (okH_al (kd := 15) (sl := n.toNat) oh ⟨h0, by omega⟩) (al_push rl oh C.2.2.2.2.2.2.2.2.2 z1 o1 ?_) (by rw [al_N]; omega) (by rw [al_S]; omega) hRm hl ol (ok_cons trivial (ok_tl os)) hlo hf
  · rw [List.map_cons, rv_ref (by omega : hN h ≠ 0), ← eg] at K
    exact K
  · refine ⟨fun r hr => absurd (cls_lt hr) (by rw [al_K]; omega), fun z1 z2 => ?_, fun z1 z2 => absurd z1 (by rw [al_K]; omega)⟩
    rw [al_K, al_L, ← eg, e1]
    simp only [al_I]
    rfl
theorem s_newF {M : MI} {pc : Nat} {lv : List (Nat × AV)} {st : List AV} {h : Hp} {Q : Option AV → Hp → Prop} {n : Int} {idx : Nat} (hd : decode M.2.1 pc = .ok (.anewarray idx, 3)) (hlk : Cond.classLink M.2.2.2.2.1 idx RX2 ∈ gtbl) (h0 : 0 ≤ n) (h1 : n ≤ 100000000) (k : Go M (pc + 3) lv (.inr (.inr (hN h)) :: st) (al h 16 n n.toNat) Q) : Go M pc lv (.inl n :: st) h Q := by
  refine Go.of2 k (Nat.le_succ _) (Nat.le_add_right _ _) fun r h' hle1 hle2 S => ?_
  intro base b D cA p l e R s m args below meth c H locs N0 S0 ls Qf C oh rl hn hss hRm hl ol os hlo hf
  have r3 := hRm.2.2.1
  have r4 := hRm.2.2.2
  rw [al_N] at hle1
  rw [al_S] at hle2
  have hn1 : ¬ Int32.ofInt n < 0 := fun z => by
    have := (i32_lt (ok_hd os) (show okv (.inl 0) from ⟨by omega, by omega⟩)).mp z
    omega
  have ecl := i32_clamp h0 (by omega : n ≤ 2147483647)
  refine W.anew C.1 C.2.1 C.2.2.2.1 (C.2.2.2.2.1 _ hlk) (va_AO.use C.2.2.2.2.2.2.2.2.1.2.1) rfl hd rfl hn1 (by rw [ecl]; omega) (by omega) (by rw [ecl]; omega) fun cB kA comp f1 f2 f3 f4 => ?_
  rw [ecl]
  have hcA : cB = cA 16 := by
    obtain ⟨_, _, -, -, -, h3⟩ := (C.2.2.2.2.2.2.2.2.1.arr 4 rfl).2
    exact Option.some.inj (f1.symm.trans h3)
  subst hcA
  generalize hH1 : H.push ({ cls := cA 16, slots := Array.replicate n.toNat .null, vm := .none } : Cell) = H1
  have z1 : H1.size = H.size + 1 := by rw [← hH1, Array.size_push]
  have e1 : H1[H.size]? = some (arrV (cA 16) n.toNat (fun _ => .null)) := by rw [← hH1, Array.getElem?_push_size, ← arrV_new]
  have o1 : ∀ q : Nat, q < H.size → H1[q]? = H[q]? := fun q hq => by rw [← hH1, Array.getElem?_push, if_neg (Nat.ne_of_lt hq)]
  have h2 := oh.1
  have eg : H.size = ga base b (hN h) := by have z := rl.1; have z2 := oh.1; rw [ga_2 z2]; omega
  refine W.cs (cells' := hN (al h 16 n n.toNat) - N0) (slots' := hS (al h 16 n n.toNat) - S0) (by rw [al_N]; omega) (by rw [al_S]; omega) ?_
  have K := S base b D cA p l e R s m args below meth c H1 locs N0 S0 ls Qf C (okH_al (kd := 16) (sl := n.toNat) oh ⟨h0, by omega⟩) (al_push rl oh C.2.2.2.2.2.2.2.2.2 z1 o1 ?_) (by rw [al_N]; omega) (by rw [al_S]; omega) hRm hl ol (ok_cons trivial (ok_tl os)) hlo hf
  · rw [List.map_cons, rv_ref (by omega : hN h ≠ 0), ← eg] at K
    exact K
  · refine ⟨fun r hr => absurd (cls_lt hr) (by rw [al_K]; omega), fun z1 z2 => absurd z2 (by rw [al_K]; omega), fun z1 z2 => ?_⟩
    rw [al_K, al_L, ← eg, e1]
    simp only [al_R]
    rfl
theorem s_newS {M : MI} {pc : Nat} {lv : List (Nat × AV)} {st : List AV} {h : Hp} {Q : Option AV → Hp → Prop} {n : Int} {idx : Nat} (hd : decode M.2.1 pc = .ok (.anewarray idx, 3)) (hlk : Cond.classLink M.2.2.2.2.1 idx RX8 ∈ gtbl) (h0 : 0 ≤ n) (h1 : n ≤ 100000000) (k : Go M (pc + 3) lv (.inr (.inr (hN h)) :: st) (al h 17 n n.toNat) Q) : Go M pc lv (.inl n :: st) h Q := by
  refine Go.of2 k (Nat.le_succ _) (Nat.le_add_right _ _) fun r h' hle1 hle2 S => ?_
  intro base b D cA p l e R s m args below meth c H locs N0 S0 ls Qf C oh rl hn hss hRm hl ol os hlo hf
  have r3 := hRm.2.2.1
  have r4 := hRm.2.2.2
  rw [al_N] at hle1
  rw [al_S] at hle2
  have hn1 : ¬ Int32.ofInt n < 0 := fun z => by
    have := (i32_lt (ok_hd os) (show okv (.inl 0) from ⟨by omega, by omega⟩)).mp z
    omega
  have ecl := i32_clamp h0 (by omega : n ≤ 2147483647)
  refine W.anew C.1 C.2.1 C.2.2.2.1 (C.2.2.2.2.1 _ hlk) (va_AO.use C.2.2.2.2.2.2.2.2.1.2.2.1) rfl hd rfl hn1 (by rw [ecl]; omega) (by omega) (by rw [ecl]; omega) fun cB kA comp f1 f2 f3 f4 => ?_
  rw [ecl]
  have hcA : cB = cA 17 := by
    obtain ⟨_, _, -, -, -, h3⟩ := (C.2.2.2.2.2.2.2.2.1.arr 5 rfl).2
    exact Option.some.inj (f1.symm.trans h3)
  subst hcA
  generalize hH1 : H.push ({ cls := cA 17, slots := Array.replicate n.toNat .null, vm := .none } : Cell) = H1
  have z1 : H1.size = H.size + 1 := by rw [← hH1, Array.size_push]
  have e1 : H1[H.size]? = some (arrV (cA 17) n.toNat (fun _ => .null)) := by rw [← hH1, Array.getElem?_push_size, ← arrV_new]
  have o1 : ∀ q : Nat, q < H.size → H1[q]? = H[q]? := fun q hq => by rw [← hH1, Array.getElem?_push, if_neg (Nat.ne_of_lt hq)]
  have h2 := oh.1
  have eg : H.size = ga base b (hN h) := by have z := rl.1; have z2 := oh.1; rw [ga_2 z2]; omega
  refine W.cs (cells' := hN (al h 17 n n.toNat) - N0) (slots' := hS (al h 17 n n.toNat) - S0) (by rw [al_N]; omega) (by rw [al_S]; omega) ?_
  have K := S base b D cA p l e R s m args below meth c H1 locs N0 S0 ls Qf C (okH_al (kd := 17) (sl := n.toNat) oh ⟨h0, by omega⟩) (al_push rl oh C.2.2.2.2.2.2.2.2.2 z1 o1 ?_) (by rw [al_N]; omega) (by rw [al_S]; omega) hRm hl ol (ok_cons trivial (ok_tl os)) hlo hf
  · rw [List.map_cons, rv_ref (by omega : hN h ≠ 0), ← eg] at K
    exact K
  · refine ⟨fun r hr => absurd (cls_lt hr) (by rw [al_K]; omega), fun z1 z2 => absurd z2 (by rw [al_K]; omega), fun z1 z2 => ?_⟩
    rw [al_K, al_L, ← eg, e1]
    simp only [al_R]
    rfl
theorem fits_byte {z : Int} (h : -128 ≤ z ∧ z ≤ 127) : fits .byte (.int (Int32.ofInt z)) = true := by
  rw [← i2b_eq h]
  exact pk_fb _
theorem s_acpy {M : MI} {pc : Nat} {lv : List (Nat × AV)} {st : List AV} {h : Hp} {Q : Option AV → Hp → Prop} {a a0 idx : Nat} {sp dp n : Int} (hd : decode M.2.1 pc = .ok (.invokestatic idx, 3)) (hlk : Cond.methodLink M.2.2.2.2.1 idx arraycopyName ∈ gtbl) (hna : Cond.native arraycopyName ∈ gtbl) (hsa : Cond.static arraycopyName ∈ gtbl) (hia : Cond.initialized "java/lang/System" ∈ gtbl) (hlv : 1 ≤ M.2.2.2.2.2) (hst : st = []) (hk0 : hK h a0 = 13) (hk : hK h a = 13) (h1 : 0 ≤ sp) (h2 : 0 ≤ dp) (h3 : 0 ≤ n) (h4 : sp + n ≤ hL h a0) (h5 : dp + n ≤ hL h a) (k : Go M (pc + 3) lv st (cpI h a0 sp a dp n) Q) : Go M pc lv (.inl n :: .inl dp :: .inr (.inr a) :: .inl sp :: .inr (.inr a0) :: st) h Q := by
  refine Go.of2 k (Nat.le_refl _) (Nat.le_refl _) fun r h' hle1 hle2 S => ?_
  intro base b D cA p l e R s m args below meth c H locs N0 S0 ls Qf C oh rl hn hss hRm hl ol os hlo hf
  subst hst
  obtain ⟨ha2, haN⟩ := okH_lt oh hk (by omega)
  obtain ⟨hb2, hbN⟩ := okH_lt oh hk0 (by omega)
  have hc1 := (rl.2.1 a ha2 haN).2.1 (by omega) (by omega)
  have hc0 := (rl.2.1 a0 hb2 hbN).2.1 (by omega) (by omega)
  rw [hk] at hc1
  rw [hk0] at hc0
  have hl1 := oh.2.2.2.2.2.1 a
  have hl0 := oh.2.2.2.2.2.1 a0
  have z0 : okv (.inl 0) := ⟨by omega, by omega⟩
  have nneg : ∀ z : Int, 0 ≤ z → z ≤ 2147483647 → ¬ Int32.ofInt z < 0 := fun z q1 q2 q => by
    have := (i32_lt (show okv (.inl z) from ⟨by omega, by omega⟩) z0).mp q
    omega
  have es := i32_clamp h1 (by omega : sp ≤ 2147483647)
  have ed := i32_clamp h2 (by omega : dp ≤ 2147483647)
  have en := i32_clamp h3 (by omega : n ≤ 2147483647)
  rw [List.map_cons, List.map_cons, List.map_cons, List.map_cons, List.map_cons, rv_ref (by omega : a ≠ 0), rv_ref (by omega : a0 ≠ 0)]
  have rl1 := hRm.1
  have rl2 := hRm.2.1
  intro T hT X
  obtain ⟨-, k0, hkk0, cm0, hkd0⟩ := (C.2.2.2.2.2.2.2.2.1.arr 1 rfl).1 (hL h a0).toNat (fun j => .int (Int32.ofInt (hI h a0 j)))
  obtain ⟨-, k1, hkk1, cm1, hkd1⟩ := (C.2.2.2.2.2.2.2.2.1.arr 1 rfl).1 (hL h a).toNat (fun j => .int (Int32.ofInt (hI h a j)))
  obtain ⟨vm', X', step⟩ := X.arraycopy C.1 C.2.2.2.1 (C.2.2.2.2.1 _ hlk) (C.2.2.2.2.1 _ hna) (C.2.2.2.2.1 _ hsa) (C.2.2.2.2.1 _ hia) (src := ga base b a0) (dst := ga base b a) (cs := arrV (cA 13) (hL h a0).toNat (fun j => .int (Int32.ofInt (hI h a0 j)))) (cd := arrV (cA 13) (hL h a).toNat (fun j => .int (Int32.ofInt (hI h a j)))) (srcPos := Int32.ofInt sp) (destPos := Int32.ofInt dp) (n := Int32.ofInt n) (by rw [hT]; exact hc0) (by rw [hT]; exact hc1)
    (fun _ h => by cases h) (fun _ h => by cases h) (fun h => by cases h) (fun h => by cases h) hkk0 hkk1 hkd0 hkd1 (by dsimp only; decide) (nneg sp h1 (by omega)) (nneg dp h2 (by omega)) (nneg n h3 (by omega))
    (by rw [arrV_size, i32_toInt ⟨by omega, by omega⟩, i32_toInt ⟨by omega, by omega⟩]; omega)
    (by rw [arrV_size, i32_toInt ⟨by omega, by omega⟩, i32_toInt ⟨by omega, by omega⟩]; omega)
    (fun vm₁ _ i hi => by
      rw [es]
      rw [en] at hi
      have e : (arrV (cA 13) (hL h a0).toNat (fun j => .int (Int32.ofInt (hI h a0 j)))).slots.getD (sp.toNat + i) .null = .int (Int32.ofInt (hI h a0 ((sp.toNat + i : Nat) : Int))) := by
        rw [Array.getD_eq_getD_getElem?, arrV_read _ _ (by omega)]
        rfl
      refine ⟨?_, ?_⟩
      · rw [e]
        exact fits_byte (oh.2.2.2.2.2.2 a0 _ hk0)
      · rw [e]
        exact trivial)
    (g := F0 m pc ls [.int (Int32.ofInt n), .int (Int32.ofInt dp), .ref (ga base b a), .int (Int32.ofInt sp), .ref (ga base b a0)]) rfl (by rw [C.2.2.1]; exact hl.1) (rest := []) rfl (by rw [C.2.1]; exact hd) (by omega) (by show 2 * 0 + 0 + (nativeFrameWords "java/lang/System" "arraycopy" 5 + 11) ≤ _; have : nativeFrameWords "java/lang/System" "arraycopy" 5 + 11 ≤ 36 := (by decide +kernel); omega)
  have e1 : copied (arrV (cA 13) (hL h a0).toNat (fun j => .int (Int32.ofInt (hI h a0 j)))) (arrV (cA 13) (hL h a).toNat (fun j => .int (Int32.ofInt (hI h a j)))) (Int32.ofInt sp) (Int32.ofInt dp) (Int32.ofInt n) = arrV (cA 13) (hL h a).toNat (fun j => .int (va_cpy (fun j : Nat => Int32.ofInt (hI h a0 j)) (fun j : Nat => Int32.ofInt (hI h a j)) sp.toNat dp.toNat n.toNat j)) := by
    have e0 := va_copied (fun z => Value.int z) (cA 13) (cA 13) (n1 := (hL h a).toNat) (dp := dp.toNat) (fun j : Nat => Int32.ofInt (hI h a0 j)) (fun j : Nat => Int32.ofInt (hI h a j)) (show sp.toNat + n.toNat ≤ (hL h a0).toNat by omega)
    rw [← es, ← ed, ← en]
    rw [← es, ← ed, ← en] at e0
    exact e0
  rw [e1] at X' step
  have hlt : ga base b a < H.size := (Array.getElem?_eq_some_iff.mp hc1).1
  generalize hcl : arrV (cA 13) (hL h a).toNat (fun j => .int (va_cpy (fun j : Nat => Int32.ofInt (hI h a0 j)) (fun j : Nat => Int32.ofInt (hI h a j)) sp.toNat dp.toNat n.toNat j)) = newc at X' step
  have hheap : ((T.setVm vm').setCell (ga base b a) newc).heap = H.setIfInBounds (ga base b a) newc := by rw [← hT]; rfl
  have oq : ∀ q : Nat, q ≠ ga base b a → (H.setIfInBounds (ga base b a) newc)[q]? = H[q]? := fun q hq => by simp [Array.getElem?_setIfInBounds, Ne.symm hq]
  have oa : (H.setIfInBounds (ga base b a) newc)[ga base b a]? = some newc := by simp [Array.getElem?_setIfInBounds, hlt]
  have hrel : Rel base b D cA s (cpI h a0 sp a dp n) (H.setIfInBounds (ga base b a) newc) := by
    refine rl.upd (a := a) C.2.2.2.2.2.2.2.2.2 ha2 rfl (fun _ => rfl) (fun _ => rfl) (fun k j hk => by simp [hI, cpI, hk]) (fun k j hk => rfl) (by simp) oq ?_
    refine ⟨fun r hr => absurd (cls_lt hr) (by show ¬ hK h a < 12; omega), fun z1 z2 => ?_, fun z1 z2 => absurd z1 (by show ¬ 16 ≤ hK h a; omega)⟩
    rw [oa, ← hcl, show hK (cpI h a0 sp a dp n) a = 13 from hk]
    show some (arrV _ (hL h a).toNat _) = some (arrV _ (hL h a).toNat _)
    congr 2
    funext i
    unfold va_cpy
    by_cases hi : dp.toNat ≤ i ∧ i < dp.toNat + n.toNat
    · rw [if_pos hi]
      have e2 : hI (cpI h a0 sp a dp n) a i = hI h a0 (sp + ((i : Int) - dp)) := if_pos ⟨rfl, by omega, by omega⟩
      have e3 : ((sp.toNat + (i - dp.toNat) : Nat) : Int) = sp + ((i : Int) - dp) := by omega
      show Value.int (Int32.ofInt (hI h a0 ((sp.toNat + (i - dp.toNat) : Nat) : Int))) = _
      rw [e2, e3]
    · rw [if_neg hi]
      have e2 : hI (cpI h a0 sp a dp n) a i = hI h a i := if_neg (by omega)
      rw [e2]
  have K := fun (L1 : List Loc) (hL1 : ∀ q ∈ L1, base ≤ q.base) => S base b D cA p l e R s m args below meth c (H.setIfInBounds (ga base b a) newc) L1 N0 S0 ls Qf C (okH_cpI (i := sp) (b := a) (j := dp) (n := n) oh hk0) hrel hn hss hRm hl ol (ok_tl (ok_tl (ok_tl (ok_tl (ok_tl os))))) hL1 hf
  exact (K _ (fun q hq => by
    rcases List.mem_append.mp hq with z | z
    · exact hlo q z
    · obtain ⟨y, -, hy⟩ := List.mem_map.mp z
      rw [← hy]
      exact ga_lo ha2) _ hheap X').elim (fun t ht => ⟨t, step t ht.1, ht.2⟩)
theorem s_ret {M : MI} {pc : Nat} {lv : List (Nat × AV)} {st : List AV} {h : Hp} {Q : Option AV → Hp → Prop} {r : Option AV} (hr : RetOk M pc r) (he : st = r.toList) (hq : Q r h) : Go M pc lv st h Q := by
  refine ⟨r, h, hq, Nat.le_refl _, Nat.le_refl _, ?_⟩
  intro base b D cA p l e R s m args below meth c H locs N0 S0 ls Qf C oh rl hn hss hRm hl ol os hlo hf
  subst he
  refine hf pc H locs ls hr oh rl (fun v hv => os v ?_) hlo
  rw [hv]
  exact List.mem_singleton.mpr rfl
theorem s_iret {M : MI} {pc : Nat} {lv : List (Nat × AV)} {h : Hp} {Q : Option AV → Hp → Prop} {x : Int} {ty : FieldType} (hd : decode M.2.1 pc = .ok (.ireturn, 1)) (hm : M.2.2.2.1 = some ty) (hn : narrow ty (.int (Int32.ofInt x)) = .int (Int32.ofInt x)) (hq : Q (some (.inl x)) h) : Go M pc lv [.inl x] h Q := s_ret (r := some (.inl x)) ⟨ty, hm, hn, hd⟩ rfl hq
theorem s_vret {M : MI} {pc : Nat} {lv : List (Nat × AV)} {h : Hp} {Q : Option AV → Hp → Prop} (hd : decode M.2.1 pc = .ok (.return_, 1)) (hm : M.2.2.2.1 = none) (hq : Q none h) : Go M pc lv [] h Q := s_ret (r := none) ⟨hm, hd⟩ rfl hq
theorem s_aret {M : MI} {pc : Nat} {lv : List (Nat × AV)} {h : Hp} {Q : Option AV → Hp → Prop} {x : Nat} {rt : FieldType} (hd : decode M.2.1 pc = .ok (.areturn, 1)) (hm : M.2.2.2.1 = some rt) (hrt : (∃ n, rt = .object n) ∨ ∃ t, rt = .array t) (hq : Q (some (.inr (.inr x))) h) : Go M pc lv [.inr (.inr x)] h Q := s_ret (r := some (.inr (.inr x))) ⟨⟨rt, hm, hrt⟩, hd⟩ rfl hq
theorem nar_z {x : Int} (h : x = 0 ∨ x = 1) : narrow .boolean (.int (Int32.ofInt x)) = .int (Int32.ofInt x) := by rcases h with rfl | rfl <;> rfl
theorem fit_z {x : Int} (h : x = 0 ∨ x = 1) : fits .boolean (.int (Int32.ofInt x)) = true := by rcases h with rfl | rfl <;> rfl
