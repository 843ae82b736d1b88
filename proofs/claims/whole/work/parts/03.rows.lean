/-! ENGINE, part 2: a row an instruction, over Go (heap unchanged) -/
def cat : AV → Nat
  | .inr (.inl _) => 2
  | _ => 1
theorem cat_rv (g : Nat → Nat) (v : AV) : (rv g v).category = cat v := by
  rcases v with z | z | k
  · rfl
  · rfl
  · show (rr g k).category = 1
    unfold rr
    split <;> rfl
def lset (i : Nat) (v : AV) (lv : List (Nat × AV)) : List (Nat × AV) := (i, v) :: lv.filter (fun q => !(q.1 == i) && !(q.1 + 1 == i && cat q.2 == 2))
def lsetL (i : Nat) (v : AV) (lv : List (Nat × AV)) : List (Nat × AV) := (i, v) :: lv.filter (fun q => !(q.1 == i) && (!(q.1 == i + 1) && !(q.1 + 1 == i && cat q.2 == 2)))
theorem lset_R (g : Nat → Nat) (i : Nat) (v : AV) (lv : List (Nat × AV)) : (i, rv g v) :: (lvR g lv).filter (fun q => !(q.1 == i) && !(q.1 + 1 == i && q.2.category == 2)) = lvR g (lset i v lv) := by
  unfold lvR lset
  rw [List.map_cons, List.filter_map]
  congr 3
  funext q
  simp only [Function.comp, cat_rv]
theorem lsetL_R (g : Nat → Nat) (i : Nat) (v : AV) (lv : List (Nat × AV)) : (i, rv g v) :: (lvR g lv).filter (fun q => !(q.1 == i) && (!(q.1 == i + 1) && !(q.1 + 1 == i && q.2.category == 2))) = lvR g (lsetL i v lv) := by
  unfold lvR lsetL
  rw [List.map_cons, List.filter_map]
  congr 3
  funext q
  simp only [Function.comp, cat_rv]
theorem lset_ok {i : Nat} {v : AV} {lv : List (Nat × AV)} (hv : okv v) (ho : ∀ q ∈ lv, okv q.2) : ∀ q ∈ lset i v lv, okv q.2 := by
  intro q hq
  rcases List.mem_cons.mp hq with rfl | hq
  · exact hv
  · exact ho q (List.mem_filter.mp hq).1
theorem lsetL_ok {i : Nat} {v : AV} {lv : List (Nat × AV)} (hv : okv v) (ho : ∀ q ∈ lv, okv q.2) : ∀ q ∈ lsetL i v lv, okv q.2 := by
  intro q hq
  rcases List.mem_cons.mp hq with rfl | hq
  · exact hv
  · exact ho q (List.mem_filter.mp hq).1
theorem ok_cons {v : AV} {st : List AV} (hv : okv v) (hs : ∀ v ∈ st, okv v) : ∀ w ∈ v :: st, okv w := fun w hw => by
  rcases List.mem_cons.mp hw with rfl | hw
  · exact hv
  · exact hs w hw
theorem ok_hd {v : AV} {st : List AV} (h : ∀ w ∈ v :: st, okv w) : okv v := h v List.mem_cons_self
theorem ok_tl {v : AV} {st : List AV} (h : ∀ w ∈ v :: st, okv w) : ∀ w ∈ st, okv w := fun w hw => h w (List.mem_cons_of_mem _ hw)

theorem s_iconst {M : MI} {pc : Nat} {lv : List (Nat × AV)} {st : List AV} {h : Hp} {Q : Option AV → Hp → Prop} {n : Int} (hd : decode M.2.1 pc = .ok (.iconst n, 1)) (ho : okv (.inl n)) (k : Go M (pc + 1) lv (.inl n :: st) h Q) : Go M pc lv (st) h Q := by
  refine Go.of k fun r h' S => ?_
  intro base b D cA p l e R s m args below meth c H locs N0 S0 ls Qf C oh rl hn hss hR hl ol os hlo hf
  exact lv_iconst C.1 C.2.1 hd rfl (S base b D cA p l e R s m args below meth c H locs N0 S0 ls Qf C oh rl hn hss hR hl ol (ok_cons ho os) hlo hf)
theorem s_bipush {M : MI} {pc : Nat} {lv : List (Nat × AV)} {st : List AV} {h : Hp} {Q : Option AV → Hp → Prop} {n : Int} (hd : decode M.2.1 pc = .ok (.bipush n, 2)) (hv : (Int8.ofInt n).toInt32 = Int32.ofInt n) (ho : okv (.inl n)) (k : Go M (pc + 2) lv (.inl n :: st) h Q) : Go M pc lv (st) h Q := by
  refine Go.of k fun r h' S => ?_
  intro base b D cA p l e R s m args below meth c H locs N0 S0 ls Qf C oh rl hn hss hR hl ol os hlo hf
  exact lv_bipush C.1 C.2.1 hd hv (S base b D cA p l e R s m args below meth c H locs N0 S0 ls Qf C oh rl hn hss hR hl ol (ok_cons ho os) hlo hf)
theorem s_sipush {M : MI} {pc : Nat} {lv : List (Nat × AV)} {st : List AV} {h : Hp} {Q : Option AV → Hp → Prop} {n : Int} (hd : decode M.2.1 pc = .ok (.sipush n, 3)) (hv : (Int16.ofInt n).toInt32 = Int32.ofInt n) (ho : okv (.inl n)) (k : Go M (pc + 3) lv (.inl n :: st) h Q) : Go M pc lv (st) h Q := by
  refine Go.of k fun r h' S => ?_
  intro base b D cA p l e R s m args below meth c H locs N0 S0 ls Qf C oh rl hn hss hR hl ol os hlo hf
  exact lv_sipush C.1 C.2.1 hd hv (S base b D cA p l e R s m args below meth c H locs N0 S0 ls Qf C oh rl hn hss hR hl ol (ok_cons ho os) hlo hf)
theorem s_ldc {M : MI} {pc : Nat} {lv : List (Nat × AV)} {st : List AV} {h : Hp} {Q : Option AV → Hp → Prop} {n : Int} {v : Int32} {idx : Nat} (hd : decode M.2.1 pc = .ok (.ldc idx, 2)) (hc : Cond.constant M.2.2.2.2.1 idx v ∈ gtbl) (hv : v = Int32.ofInt n) (ho : okv (.inl n)) (k : Go M (pc + 2) lv (.inl n :: st) h Q) : Go M pc lv (st) h Q := by
  refine Go.of k fun r h' S => ?_
  intro base b D cA p l e R s m args below meth c H locs N0 S0 ls Qf C oh rl hn hss hR hl ol os hlo hf
  exact lv_ldc C.1 C.2.1 C.2.2.2.1 (C.2.2.2.2.1 _ (hv ▸ hc)) hd (S base b D cA p l e R s m args below meth c H locs N0 S0 ls Qf C oh rl hn hss hR hl ol (ok_cons ho os) hlo hf)
theorem s_ldcw {M : MI} {pc : Nat} {lv : List (Nat × AV)} {st : List AV} {h : Hp} {Q : Option AV → Hp → Prop} {n : Int} {v : Int32} {idx : Nat} (hd : decode M.2.1 pc = .ok (.ldc_w idx, 3)) (hc : Cond.constant M.2.2.2.2.1 idx v ∈ gtbl) (hv : v = Int32.ofInt n) (ho : okv (.inl n)) (k : Go M (pc + 3) lv (.inl n :: st) h Q) : Go M pc lv (st) h Q := by
  refine Go.of k fun r h' S => ?_
  intro base b D cA p l e R s m args below meth c H locs N0 S0 ls Qf C oh rl hn hss hR hl ol os hlo hf
  exact lv_ldcw C.1 C.2.1 C.2.2.2.1 (C.2.2.2.2.1 _ (hv ▸ hc)) hd (S base b D cA p l e R s m args below meth c H locs N0 S0 ls Qf C oh rl hn hss hR hl ol (ok_cons ho os) hlo hf)
theorem s_ldc2 {M : MI} {pc : Nat} {lv : List (Nat × AV)} {st : List AV} {h : Hp} {Q : Option AV → Hp → Prop} {n : Int} {v : Int64} {idx : Nat} (hd : decode M.2.1 pc = .ok (.ldc2_w idx, 3)) (hc : Cond.constantLong M.2.2.2.2.1 idx v ∈ gtbl) (hv : v = Int64.ofInt n) (ho : okv (.inr (.inl n))) (k : Go M (pc + 3) lv (.inr (.inl n) :: st) h Q) : Go M pc lv (st) h Q := by
  refine Go.of k fun r h' S => ?_
  intro base b D cA p l e R s m args below meth c H locs N0 S0 ls Qf C oh rl hn hss hR hl ol os hlo hf
  exact lv_ldc2 C.1 C.2.1 C.2.2.2.1 (C.2.2.2.2.1 _ (hv ▸ hc)) hd (S base b D cA p l e R s m args below meth c H locs N0 S0 ls Qf C oh rl hn hss hR hl ol (ok_cons ho os) hlo hf)
theorem s_lconst {M : MI} {pc : Nat} {lv : List (Nat × AV)} {st : List AV} {h : Hp} {Q : Option AV → Hp → Prop} {k : Fin 2} {n : Int} (hd : decode M.2.1 pc = .ok (.lconst k, 1)) (hv : Int64.ofNat (k : Nat) = Int64.ofInt n) (ho : okv (.inr (.inl n))) (k : Go M (pc + 1) lv (.inr (.inl n) :: st) h Q) : Go M pc lv (st) h Q := by
  refine Go.of k fun r h' S => ?_
  intro base b D cA p l e R s m args below meth c H locs N0 S0 ls Qf C oh rl hn hss hR hl ol os hlo hf
  exact lv_lconst C.1 C.2.1 hd hv (S base b D cA p l e R s m args below meth c H locs N0 S0 ls Qf C oh rl hn hss hR hl ol (ok_cons ho os) hlo hf)
theorem s_null {M : MI} {pc : Nat} {lv : List (Nat × AV)} {st : List AV} {h : Hp} {Q : Option AV → Hp → Prop} (hd : decode M.2.1 pc = .ok (.aconst_null, 1)) (k : Go M (pc + 1) lv (.inr (.inr 0) :: st) h Q) : Go M pc lv (st) h Q := by
  refine Go.of k fun r h' S => ?_
  intro base b D cA p l e R s m args below meth c H locs N0 S0 ls Qf C oh rl hn hss hR hl ol os hlo hf
  exact lv_null C.1 C.2.1 hd (S base b D cA p l e R s m args below meth c H locs N0 S0 ls Qf C oh rl hn hss hR hl ol (ok_cons trivial os) hlo hf)
theorem s_iload_n {M : MI} {pc : Nat} {lv : List (Nat × AV)} {st : List AV} {h : Hp} {Q : Option AV → Hp → Prop} {k : Fin 4} {i : Nat} {x : Int} (hd : decode M.2.1 pc = .ok (.iload_n k, 1)) (hi : (k : Nat) = i) (hm : (i, .inl x) ∈ lv) (k : Go M (pc + 1) lv (.inl x :: st) h Q) : Go M pc lv (st) h Q := by
  refine Go.of k fun r h' S => ?_
  intro base b D cA p l e R s m args below meth c H locs N0 S0 ls Qf C oh rl hn hss hR hl ol os hlo hf
  exact lv_iload_n C.1 C.2.1 hd hi (lv_of hl hm) (S base b D cA p l e R s m args below meth c H locs N0 S0 ls Qf C oh rl hn hss hR hl ol (ok_cons (ol _ hm) os) hlo hf)
theorem s_iload {M : MI} {pc : Nat} {lv : List (Nat × AV)} {st : List AV} {h : Hp} {Q : Option AV → Hp → Prop} {i : Nat} {x : Int} (hd : decode M.2.1 pc = .ok (.iload i, 2)) (hm : (i, .inl x) ∈ lv) (k : Go M (pc + 2) lv (.inl x :: st) h Q) : Go M pc lv (st) h Q := by
  refine Go.of k fun r h' S => ?_
  intro base b D cA p l e R s m args below meth c H locs N0 S0 ls Qf C oh rl hn hss hR hl ol os hlo hf
  exact lv_iload C.1 C.2.1 hd (lv_of hl hm) (S base b D cA p l e R s m args below meth c H locs N0 S0 ls Qf C oh rl hn hss hR hl ol (ok_cons (ol _ hm) os) hlo hf)
theorem s_lload_n {M : MI} {pc : Nat} {lv : List (Nat × AV)} {st : List AV} {h : Hp} {Q : Option AV → Hp → Prop} {k : Fin 4} {i : Nat} {x : Int} (hd : decode M.2.1 pc = .ok (.lload_n k, 1)) (hi : (k : Nat) = i) (hm : (i, .inr (.inl x)) ∈ lv) (k : Go M (pc + 1) lv (.inr (.inl x) :: st) h Q) : Go M pc lv (st) h Q := by
  refine Go.of k fun r h' S => ?_
  intro base b D cA p l e R s m args below meth c H locs N0 S0 ls Qf C oh rl hn hss hR hl ol os hlo hf
  exact lv_lload_n C.1 C.2.1 hd hi (lv_of hl hm) (S base b D cA p l e R s m args below meth c H locs N0 S0 ls Qf C oh rl hn hss hR hl ol (ok_cons (ol _ hm) os) hlo hf)
theorem s_aload_n {M : MI} {pc : Nat} {lv : List (Nat × AV)} {st : List AV} {h : Hp} {Q : Option AV → Hp → Prop} {k : Fin 4} {i x : Nat} (hd : decode M.2.1 pc = .ok (.aload_n k, 1)) (hi : (k : Nat) = i) (hm : (i, .inr (.inr x)) ∈ lv) (k : Go M (pc + 1) lv (.inr (.inr x) :: st) h Q) : Go M pc lv st h Q := by
  refine Go.of k fun r h' S => ?_
  intro base b D cA p l e R s m args below meth c H locs N0 S0 ls Qf C oh rl hn hss hR hl ol os hlo hf
  have hv := lv_of hl hm
  have K := S base b D cA p l e R s m args below meth c H locs N0 S0 ls Qf C oh rl hn hss hR hl ol (ok_cons trivial os) hlo hf
  by_cases hx : x = 0
  · subst hx
    exact lv_aload_nN C.1 C.2.1 hd hi hv K
  · have e : rv (ga base b) (.inr (.inr x)) = .ref (ga base b x) := by show rr _ _ = _; unfold rr; rw [if_neg hx]
    rw [List.map_cons, e] at K
    rw [e] at hv
    exact lv_aload_n C.1 C.2.1 hd hi hv K
theorem s_aload {M : MI} {pc : Nat} {lv : List (Nat × AV)} {st : List AV} {h : Hp} {Q : Option AV → Hp → Prop} {i x : Nat} (hd : decode M.2.1 pc = .ok (.aload i, 2)) (hm : (i, .inr (.inr x)) ∈ lv) (k : Go M (pc + 2) lv (.inr (.inr x) :: st) h Q) : Go M pc lv st h Q := by
  refine Go.of k fun r h' S => ?_
  intro base b D cA p l e R s m args below meth c H locs N0 S0 ls Qf C oh rl hn hss hR hl ol os hlo hf
  have hv := lv_of hl hm
  have K := S base b D cA p l e R s m args below meth c H locs N0 S0 ls Qf C oh rl hn hss hR hl ol (ok_cons trivial os) hlo hf
  by_cases hx : x = 0
  · subst hx
    exact lv_aloadN C.1 C.2.1 hd hv K
  · have e : rv (ga base b) (.inr (.inr x)) = .ref (ga base b x) := by show rr _ _ = _; unfold rr; rw [if_neg hx]
    rw [List.map_cons, e] at K
    rw [e] at hv
    exact lv_aload C.1 C.2.1 hd hv K
theorem s_istore_n {M : MI} {pc : Nat} {lv : List (Nat × AV)} {st : List AV} {h : Hp} {Q : Option AV → Hp → Prop} {k : Fin 4} {i : Nat} {x : Int} {lv' : List (Nat × AV)} (hd : decode M.2.1 pc = .ok (.istore_n k, 1)) (hi : (k : Nat) = i) (hb : i < M.2.2.1) (he : lset i (.inl x) lv = lv') (k : Go M (pc + 1) lv' (st) h Q) : Go M pc lv (.inl x :: st) h Q := by
  refine Go.of k fun r h' S => ?_
  intro base b D cA p l e R s m args below meth c H locs N0 S0 ls Qf C oh rl hn hss hR hl ol os hlo hf
  subst he
  exact lv_istore_n C.1 C.2.1 hd hi hl hb (lset_R _ _ (.inl x) _) (fun ls' hl' => S base b D cA p l e R s m args below meth c H locs N0 S0 ls' Qf C oh rl hn hss hR hl' (lset_ok (ok_hd os) ol) (ok_tl os) hlo hf)
theorem s_istore {M : MI} {pc : Nat} {lv : List (Nat × AV)} {st : List AV} {h : Hp} {Q : Option AV → Hp → Prop} {i : Nat} {x : Int} {lv' : List (Nat × AV)} (hd : decode M.2.1 pc = .ok (.istore i, 2)) (hb : i < M.2.2.1) (he : lset i (.inl x) lv = lv') (k : Go M (pc + 2) lv' (st) h Q) : Go M pc lv (.inl x :: st) h Q := by
  refine Go.of k fun r h' S => ?_
  intro base b D cA p l e R s m args below meth c H locs N0 S0 ls Qf C oh rl hn hss hR hl ol os hlo hf
  subst he
  exact lv_istore C.1 C.2.1 hd hl hb (lset_R _ _ (.inl x) _) (fun ls' hl' => S base b D cA p l e R s m args below meth c H locs N0 S0 ls' Qf C oh rl hn hss hR hl' (lset_ok (ok_hd os) ol) (ok_tl os) hlo hf)
theorem s_lstore_n {M : MI} {pc : Nat} {lv : List (Nat × AV)} {st : List AV} {h : Hp} {Q : Option AV → Hp → Prop} {k : Fin 4} {i : Nat} {x : Int} {lv' : List (Nat × AV)} (hd : decode M.2.1 pc = .ok (.lstore_n k, 1)) (hi : (k : Nat) = i) (hb : i + 1 < M.2.2.1) (he : lsetL i (.inr (.inl x)) lv = lv') (k : Go M (pc + 1) lv' (st) h Q) : Go M pc lv (.inr (.inl x) :: st) h Q := by
  refine Go.of k fun r h' S => ?_
  intro base b D cA p l e R s m args below meth c H locs N0 S0 ls Qf C oh rl hn hss hR hl ol os hlo hf
  subst he
  exact lv_lstore_n C.1 C.2.1 hd hi hl hb (lsetL_R _ _ (.inr (.inl x)) _) (fun ls' hl' => S base b D cA p l e R s m args below meth c H locs N0 S0 ls' Qf C oh rl hn hss hR hl' (lsetL_ok (ok_hd os) ol) (ok_tl os) hlo hf)
theorem s_astore_n {M : MI} {pc : Nat} {lv : List (Nat × AV)} {st : List AV} {h : Hp} {Q : Option AV → Hp → Prop} {k : Fin 4} {i x : Nat} {lv' : List (Nat × AV)} (hd : decode M.2.1 pc = .ok (.astore_n k, 1)) (hi : (k : Nat) = i) (hb : i < M.2.2.1) (he : lset i (.inr (.inr x)) lv = lv') (k : Go M (pc + 1) lv' st h Q) : Go M pc lv (.inr (.inr x) :: st) h Q := by
  refine Go.of k fun r h' S => ?_
  intro base b D cA p l e R s m args below meth c H locs N0 S0 ls Qf C oh rl hn hss hR hl ol os hlo hf
  subst he
  have e2 := lset_R (ga base b) i (.inr (.inr x)) lv
  have K := fun ls' hl' => S base b D cA p l e R s m args below meth c H locs N0 S0 ls' Qf C oh rl hn hss hR hl' (lset_ok (ok_hd os) ol) (ok_tl os) hlo hf
  by_cases hx : x = 0
  · subst hx
    exact lv_astore_nN C.1 C.2.1 hd hi hl hb e2 K
  · have e : rv (ga base b) (.inr (.inr x)) = .ref (ga base b x) := by show rr _ _ = _; unfold rr; rw [if_neg hx]
    rw [List.map_cons, e]
    rw [e] at e2
    exact lv_astore_n C.1 C.2.1 hd hi hl hb e2 K
theorem s_astore {M : MI} {pc : Nat} {lv : List (Nat × AV)} {st : List AV} {h : Hp} {Q : Option AV → Hp → Prop} {i x : Nat} {lv' : List (Nat × AV)} (hd : decode M.2.1 pc = .ok (.astore i, 2)) (hb : i < M.2.2.1) (he : lset i (.inr (.inr x)) lv = lv') (k : Go M (pc + 2) lv' st h Q) : Go M pc lv (.inr (.inr x) :: st) h Q := by
  refine Go.of k fun r h' S => ?_
  intro base b D cA p l e R s m args below meth c H locs N0 S0 ls Qf C oh rl hn hss hR hl ol os hlo hf
  subst he
  have e2 := lset_R (ga base b) i (.inr (.inr x)) lv
  have K := fun ls' hl' => S base b D cA p l e R s m args below meth c H locs N0 S0 ls' Qf C oh rl hn hss hR hl' (lset_ok (ok_hd os) ol) (ok_tl os) hlo hf
  by_cases hx : x = 0
  · subst hx
    exact lv_astoreN C.1 C.2.1 hd hl hb e2 K
  · have e : rv (ga base b) (.inr (.inr x)) = .ref (ga base b x) := by show rr _ _ = _; unfold rr; rw [if_neg hx]
    rw [List.map_cons, e]
    rw [e] at e2
    exact lv_astore C.1 C.2.1 hd hl hb e2 K
theorem s_iinc {M : MI} {pc : Nat} {lv : List (Nat × AV)} {st : List AV} {h : Hp} {Q : Option AV → Hp → Prop} {i : Nat} {n x : Int} {lv' : List (Nat × AV)} (hd : decode M.2.1 pc = .ok (.iinc i n, 3)) (hm : (i, .inl x) ∈ lv) (ho : okv (.inl (x + n))) (hb : i < M.2.2.1) (he : lset i (.inl (x + n)) lv = lv') (k : Go M (pc + 3) lv' (st) h Q) : Go M pc lv (st) h Q := by
  refine Go.of k fun r h' S => ?_
  intro base b D cA p l e R s m args below meth c H locs N0 S0 ls Qf C oh rl hn hss hR hl ol os hlo hf
  subst he
  obtain ⟨k0, hk⟩ := List.getElem?_of_mem (lvR_mem (g := ga base b) hm)
  exact lv_iinc C.1 C.2.1 hd hl hk (Int32.ofInt_add x n).symm hb (lset_R _ _ (.inl (x + n)) _) (fun ls' hl' => S base b D cA p l e R s m args below meth c H locs N0 S0 ls' Qf C oh rl hn hss hR hl' (lset_ok ho ol) os hlo hf)
theorem s_iadd {M : MI} {pc : Nat} {lv : List (Nat × AV)} {st : List AV} {h : Hp} {Q : Option AV → Hp → Prop} {x y : Int} (hd : decode M.2.1 pc = .ok (.iadd, 1)) (ho : okv (.inl (x + y))) (k : Go M (pc + 1) lv (.inl (x + y) :: st) h Q) : Go M pc lv (.inl y :: .inl x :: st) h Q := by
  refine Go.of k fun r h' S => ?_
  intro base b D cA p l e R s m args below meth c H locs N0 S0 ls Qf C oh rl hn hss hR hl ol os hlo hf
  have K := S base b D cA p l e R s m args below meth c H locs N0 S0 ls Qf C oh rl hn hss hR hl ol (ok_cons ho (ok_tl (ok_tl os))) hlo hf
  rw [List.map_cons, show rv (ga base b) (.inl (x + y)) = .int (Int32.ofInt x + Int32.ofInt y) from congrArg Value.int (Int32.ofInt_add x y)] at K
  exact lv_iadd C.1 C.2.1 hd K
theorem s_isub {M : MI} {pc : Nat} {lv : List (Nat × AV)} {st : List AV} {h : Hp} {Q : Option AV → Hp → Prop} {x y : Int} (hd : decode M.2.1 pc = .ok (.isub, 1)) (ho : okv (.inl (x - y))) (k : Go M (pc + 1) lv (.inl (x - y) :: st) h Q) : Go M pc lv (.inl y :: .inl x :: st) h Q := by
  refine Go.of k fun r h' S => ?_
  intro base b D cA p l e R s m args below meth c H locs N0 S0 ls Qf C oh rl hn hss hR hl ol os hlo hf
  have K := S base b D cA p l e R s m args below meth c H locs N0 S0 ls Qf C oh rl hn hss hR hl ol (ok_cons ho (ok_tl (ok_tl os))) hlo hf
  rw [List.map_cons, show rv (ga base b) (.inl (x - y)) = .int (Int32.ofInt x - Int32.ofInt y) from congrArg Value.int (Int32.ofInt_sub x y)] at K
  exact lv_isub C.1 C.2.1 hd K
theorem s_imul {M : MI} {pc : Nat} {lv : List (Nat × AV)} {st : List AV} {h : Hp} {Q : Option AV → Hp → Prop} {x y : Int} (hd : decode M.2.1 pc = .ok (.imul, 1)) (ho : okv (.inl (x * y))) (k : Go M (pc + 1) lv (.inl (x * y) :: st) h Q) : Go M pc lv (.inl y :: .inl x :: st) h Q := by
  refine Go.of k fun r h' S => ?_
  intro base b D cA p l e R s m args below meth c H locs N0 S0 ls Qf C oh rl hn hss hR hl ol os hlo hf
  have K := S base b D cA p l e R s m args below meth c H locs N0 S0 ls Qf C oh rl hn hss hR hl ol (ok_cons ho (ok_tl (ok_tl os))) hlo hf
  rw [List.map_cons, show rv (ga base b) (.inl (x * y)) = .int (Int32.ofInt x * Int32.ofInt y) from congrArg Value.int (Int32.ofInt_mul x y)] at K
  exact lv_imul C.1 C.2.1 hd K
theorem s_ladd {M : MI} {pc : Nat} {lv : List (Nat × AV)} {st : List AV} {h : Hp} {Q : Option AV → Hp → Prop} {x y : Int} (hd : decode M.2.1 pc = .ok (.ladd, 1)) (ho : okv (.inr (.inl (x + y)))) (k : Go M (pc + 1) lv (.inr (.inl (x + y)) :: st) h Q) : Go M pc lv (.inr (.inl y) :: .inr (.inl x) :: st) h Q := by
  refine Go.of k fun r h' S => ?_
  intro base b D cA p l e R s m args below meth c H locs N0 S0 ls Qf C oh rl hn hss hR hl ol os hlo hf
  have K := S base b D cA p l e R s m args below meth c H locs N0 S0 ls Qf C oh rl hn hss hR hl ol (ok_cons ho (ok_tl (ok_tl os))) hlo hf
  rw [List.map_cons, show rv (ga base b) (.inr (.inl (x + y))) = .long (Int64.ofInt x + Int64.ofInt y) from congrArg Value.long (Int64.ofInt_add x y)] at K
  exact lv_ladd C.1 C.2.1 hd K
theorem s_lmul {M : MI} {pc : Nat} {lv : List (Nat × AV)} {st : List AV} {h : Hp} {Q : Option AV → Hp → Prop} {x y : Int} (hd : decode M.2.1 pc = .ok (.lmul, 1)) (ho : okv (.inr (.inl (x * y)))) (k : Go M (pc + 1) lv (.inr (.inl (x * y)) :: st) h Q) : Go M pc lv (.inr (.inl y) :: .inr (.inl x) :: st) h Q := by
  refine Go.of k fun r h' S => ?_
  intro base b D cA p l e R s m args below meth c H locs N0 S0 ls Qf C oh rl hn hss hR hl ol os hlo hf
  have K := S base b D cA p l e R s m args below meth c H locs N0 S0 ls Qf C oh rl hn hss hR hl ol (ok_cons ho (ok_tl (ok_tl os))) hlo hf
  rw [List.map_cons, show rv (ga base b) (.inr (.inl (x * y))) = .long (Int64.ofInt x * Int64.ofInt y) from congrArg Value.long (Int64.ofInt_mul x y)] at K
  exact lv_lmul C.1 C.2.1 hd K
theorem i32_div {x y : Int} (hx : okv (.inl x)) (hy : okv (.inl y)) (h0 : 0 ≤ x) (h1 : 0 < y) : Int32.ofInt x / Int32.ofInt y = Int32.ofInt (x / y) := by
  have h2 : 0 ≤ x / y := Int.ediv_nonneg h0 (by omega)
  have h3 : x / y ≤ x := Int.ediv_le_self y h0
  have hz : okv (.inl (x / y)) := ⟨by have := hx.1; omega, by have := hx.2; omega⟩
  apply Int32.toInt_inj.mp
  rw [Int32.toInt_div, i32_toInt hx, i32_toInt hy, i32_toInt hz, Int.tdiv_eq_ediv_of_nonneg h0, ← Int32.toInt_ofInt]
  exact i32_toInt hz
theorem i64_div {x y : Int} (hx : okv (.inr (.inl x))) (hy : okv (.inr (.inl y))) (h0 : 0 ≤ x) (h1 : 0 < y) : Int64.ofInt x / Int64.ofInt y = Int64.ofInt (x / y) := by
  have h2 : 0 ≤ x / y := Int.ediv_nonneg h0 (by omega)
  have h3 : x / y ≤ x := Int.ediv_le_self y h0
  have hz : okv (.inr (.inl (x / y))) := ⟨by have := hx.1; omega, by have := hx.2; omega⟩
  apply Int64.toInt_inj.mp
  rw [Int64.toInt_div, i64_toInt hx, i64_toInt hy, i64_toInt hz, Int.tdiv_eq_ediv_of_nonneg h0, ← Int64.toInt_ofInt]
  exact i64_toInt hz
theorem i32_rem {x y : Int} (hx : okv (.inl x)) (hy : okv (.inl y)) (h0 : 0 ≤ x) (h1 : 0 < y) : Int32.ofInt x - Int32.ofInt x / Int32.ofInt y * Int32.ofInt y = Int32.ofInt (x % y) := by
  rw [i32_div hx hy h0 h1, ← Int32.ofInt_mul, ← Int32.ofInt_sub, Int.emod_def, Int.mul_comm y]
theorem i64_rem {x y : Int} (hx : okv (.inr (.inl x))) (hy : okv (.inr (.inl y))) (h0 : 0 ≤ x) (h1 : 0 < y) : Int64.ofInt x - Int64.ofInt x / Int64.ofInt y * Int64.ofInt y = Int64.ofInt (x % y) := by
  rw [i64_div hx hy h0 h1, ← Int64.ofInt_mul, ← Int64.ofInt_sub, Int.emod_def, Int.mul_comm y]
theorem ok_div {x y : Int} (hx : okv (.inl x)) (h0 : 0 ≤ x) (h1 : 0 < y) : okv (.inl (x / y)) := by
  have h2 : 0 ≤ x / y := Int.ediv_nonneg h0 (by omega)
  have h3 : x / y ≤ x := Int.ediv_le_self y h0
  exact ⟨by have := hx.1; omega, by have := hx.2; omega⟩
theorem okl_div {x y : Int} (hx : okv (.inr (.inl x))) (h0 : 0 ≤ x) (h1 : 0 < y) : okv (.inr (.inl (x / y))) := by
  have h2 : 0 ≤ x / y := Int.ediv_nonneg h0 (by omega)
  have h3 : x / y ≤ x := Int.ediv_le_self y h0
  exact ⟨by have := hx.1; omega, by have := hx.2; omega⟩
theorem ok_rem {x y : Int} (hy : okv (.inl y)) (h1 : 0 < y) : okv (.inl (x % y)) := by
  have h2 : 0 ≤ x % y := Int.emod_nonneg x (by omega)
  have h3 : x % y < y := Int.emod_lt_of_pos x h1
  exact ⟨by omega, by have := hy.2; omega⟩
theorem okl_rem {x y : Int} (hy : okv (.inr (.inl y))) (h1 : 0 < y) : okv (.inr (.inl (x % y))) := by
  have h2 : 0 ≤ x % y := Int.emod_nonneg x (by omega)
  have h3 : x % y < y := Int.emod_lt_of_pos x h1
  exact ⟨by omega, by have := hy.2; omega⟩
theorem i32_ne0 {y : Int} (hy : okv (.inl y)) (h1 : 0 < y) : ¬ Int32.ofInt y = 0 := fun e => by
  have h2 := (i32_eq hy (show okv (.inl 0) from ⟨by omega, by omega⟩)).mp (by rw [e]; rfl)
  omega
theorem i64_ne0 {y : Int} (hy : okv (.inr (.inl y))) (h1 : 0 < y) : ¬ Int64.ofInt y = 0 := fun e => by
  have h2 : (Int64.ofInt y).toInt = 0 := by rw [e]; rfl
  rw [i64_toInt hy] at h2
  omega

theorem s_idiv {M : MI} {pc : Nat} {lv : List (Nat × AV)} {st : List AV} {h : Hp} {Q : Option AV → Hp → Prop} {x y : Int} (hd : decode M.2.1 pc = .ok (.idiv, 1)) (h0 : 0 ≤ x) (h1 : 0 < y) (k : Go M (pc + 1) lv (.inl (x / y) :: st) h Q) : Go M pc lv (.inl y :: .inl x :: st) h Q := by
  refine Go.of k fun r h' S => ?_
  intro base b D cA p l e R s m args below meth c H locs N0 S0 ls Qf C oh rl hn hss hR hl ol os hlo hf
  have K := S base b D cA p l e R s m args below meth c H locs N0 S0 ls Qf C oh rl hn hss hR hl ol (ok_cons (ok_div (ok_hd (ok_tl os)) h0 h1) (ok_tl (ok_tl os))) hlo hf
  rw [List.map_cons, show rv (ga base b) (.inl (x / y)) = .int (Int32.ofInt x / Int32.ofInt y) from congrArg Value.int (i32_div (ok_hd (ok_tl os)) (ok_hd os) h0 h1).symm] at K
  exact lv_idiv C.1 C.2.1 hd (i32_ne0 (ok_hd os) h1) K
theorem s_irem {M : MI} {pc : Nat} {lv : List (Nat × AV)} {st : List AV} {h : Hp} {Q : Option AV → Hp → Prop} {x y : Int} (hd : decode M.2.1 pc = .ok (.irem, 1)) (h0 : 0 ≤ x) (h1 : 0 < y) (k : Go M (pc + 1) lv (.inl (x % y) :: st) h Q) : Go M pc lv (.inl y :: .inl x :: st) h Q := by
  refine Go.of k fun r h' S => ?_
  intro base b D cA p l e R s m args below meth c H locs N0 S0 ls Qf C oh rl hn hss hR hl ol os hlo hf
  have K := S base b D cA p l e R s m args below meth c H locs N0 S0 ls Qf C oh rl hn hss hR hl ol (ok_cons (ok_rem (ok_hd os) h1) (ok_tl (ok_tl os))) hlo hf
  rw [List.map_cons, show rv (ga base b) (.inl (x % y)) = .int (Int32.ofInt x - Int32.ofInt x / Int32.ofInt y * Int32.ofInt y) from congrArg Value.int (i32_rem (ok_hd (ok_tl os)) (ok_hd os) h0 h1).symm] at K
  exact lv_irem C.1 C.2.1 hd (i32_ne0 (ok_hd os) h1) K
theorem s_ldiv {M : MI} {pc : Nat} {lv : List (Nat × AV)} {st : List AV} {h : Hp} {Q : Option AV → Hp → Prop} {x y : Int} (hd : decode M.2.1 pc = .ok (.ldiv, 1)) (h0 : 0 ≤ x) (h1 : 0 < y) (k : Go M (pc + 1) lv (.inr (.inl (x / y)) :: st) h Q) : Go M pc lv (.inr (.inl y) :: .inr (.inl x) :: st) h Q := by
  refine Go.of k fun r h' S => ?_
  intro base b D cA p l e R s m args below meth c H locs N0 S0 ls Qf C oh rl hn hss hR hl ol os hlo hf
  have K := S base b D cA p l e R s m args below meth c H locs N0 S0 ls Qf C oh rl hn hss hR hl ol (ok_cons (okl_div (ok_hd (ok_tl os)) h0 h1) (ok_tl (ok_tl os))) hlo hf
  rw [List.map_cons, show rv (ga base b) (.inr (.inl (x / y))) = .long (Int64.ofInt x / Int64.ofInt y) from congrArg Value.long (i64_div (ok_hd (ok_tl os)) (ok_hd os) h0 h1).symm] at K
  exact lv_ldiv C.1 C.2.1 hd (i64_ne0 (ok_hd os) h1) K
theorem s_lrem {M : MI} {pc : Nat} {lv : List (Nat × AV)} {st : List AV} {h : Hp} {Q : Option AV → Hp → Prop} {x y : Int} (hd : decode M.2.1 pc = .ok (.lrem, 1)) (h0 : 0 ≤ x) (h1 : 0 < y) (k : Go M (pc + 1) lv (.inr (.inl (x % y)) :: st) h Q) : Go M pc lv (.inr (.inl y) :: .inr (.inl x) :: st) h Q := by
  refine Go.of k fun r h' S => ?_
  intro base b D cA p l e R s m args below meth c H locs N0 S0 ls Qf C oh rl hn hss hR hl ol os hlo hf
  have K := S base b D cA p l e R s m args below meth c H locs N0 S0 ls Qf C oh rl hn hss hR hl ol (ok_cons (okl_rem (ok_hd os) h1) (ok_tl (ok_tl os))) hlo hf
  rw [List.map_cons, show rv (ga base b) (.inr (.inl (x % y))) = .long (Int64.ofInt x - Int64.ofInt x / Int64.ofInt y * Int64.ofInt y) from congrArg Value.long (i64_rem (ok_hd (ok_tl os)) (ok_hd os) h0 h1).symm] at K
  exact lv_lrem C.1 C.2.1 hd (i64_ne0 (ok_hd os) h1) K
def zAnd (x y : Int) : Int := (Int32.ofInt x &&& Int32.ofInt y).toInt
def zOr (x y : Int) : Int := (Int32.ofInt x ||| Int32.ofInt y).toInt
def zShl (x y : Int) : Int := (Int32.ofInt x <<< (Int32.ofInt y &&& 31)).toInt
def zShr (x y : Int) : Int := (Int32.ofInt x >>> (Int32.ofInt y &&& 31)).toInt
def zUshr (x y : Int) : Int := (((Int32.ofInt x).toUInt32 >>> ((Int32.ofInt y).toUInt32 &&& Int32.toUInt32 31)).toInt32).toInt
def zLand (x y : Int) : Int := (Int64.ofInt x &&& Int64.ofInt y).toInt
def zCmp (x y : Int) : Int := if y < x then 1 else if x = y then 0 else -1
theorem i64_range (x : Int64) : okv (.inr (.inl x.toInt)) := by
  have h1 := Int64.le_toInt x
  have h2 := Int64.toInt_lt x
  exact ⟨by omega, by omega⟩

theorem s_iand {M : MI} {pc : Nat} {lv : List (Nat × AV)} {st : List AV} {h : Hp} {Q : Option AV → Hp → Prop} {x y : Int} (hd : decode M.2.1 pc = .ok (.iand, 1)) (k : Go M (pc + 1) lv (.inl (zAnd x y) :: st) h Q) : Go M pc lv (.inl y :: .inl x :: st) h Q := by
  refine Go.of k fun r h' S => ?_
  intro base b D cA p l e R s m args below meth c H locs N0 S0 ls Qf C oh rl hn hss hR hl ol os hlo hf
  have K := S base b D cA p l e R s m args below meth c H locs N0 S0 ls Qf C oh rl hn hss hR hl ol (ok_cons (i32_range _) (ok_tl (ok_tl os))) hlo hf
  rw [List.map_cons, show rv (ga base b) (.inl (zAnd x y)) = .int (Int32.ofInt x &&& Int32.ofInt y) from congrArg Value.int (i32_of _)] at K
  exact lv_iand C.1 C.2.1 hd K
theorem s_ior {M : MI} {pc : Nat} {lv : List (Nat × AV)} {st : List AV} {h : Hp} {Q : Option AV → Hp → Prop} {x y : Int} (hd : decode M.2.1 pc = .ok (.ior, 1)) (k : Go M (pc + 1) lv (.inl (zOr x y) :: st) h Q) : Go M pc lv (.inl y :: .inl x :: st) h Q := by
  refine Go.of k fun r h' S => ?_
  intro base b D cA p l e R s m args below meth c H locs N0 S0 ls Qf C oh rl hn hss hR hl ol os hlo hf
  have K := S base b D cA p l e R s m args below meth c H locs N0 S0 ls Qf C oh rl hn hss hR hl ol (ok_cons (i32_range _) (ok_tl (ok_tl os))) hlo hf
  rw [List.map_cons, show rv (ga base b) (.inl (zOr x y)) = .int (Int32.ofInt x ||| Int32.ofInt y) from congrArg Value.int (i32_of _)] at K
  exact lv_ior C.1 C.2.1 hd K
theorem s_ishl {M : MI} {pc : Nat} {lv : List (Nat × AV)} {st : List AV} {h : Hp} {Q : Option AV → Hp → Prop} {x y : Int} (hd : decode M.2.1 pc = .ok (.ishl, 1)) (k : Go M (pc + 1) lv (.inl (zShl x y) :: st) h Q) : Go M pc lv (.inl y :: .inl x :: st) h Q := by
  refine Go.of k fun r h' S => ?_
  intro base b D cA p l e R s m args below meth c H locs N0 S0 ls Qf C oh rl hn hss hR hl ol os hlo hf
  have K := S base b D cA p l e R s m args below meth c H locs N0 S0 ls Qf C oh rl hn hss hR hl ol (ok_cons (i32_range _) (ok_tl (ok_tl os))) hlo hf
  rw [List.map_cons, show rv (ga base b) (.inl (zShl x y)) = .int (Int32.ofInt x <<< (Int32.ofInt y &&& 31)) from congrArg Value.int (i32_of _)] at K
  exact lv_ishl C.1 C.2.1 hd K
theorem s_ishr {M : MI} {pc : Nat} {lv : List (Nat × AV)} {st : List AV} {h : Hp} {Q : Option AV → Hp → Prop} {x y : Int} (hd : decode M.2.1 pc = .ok (.ishr, 1)) (k : Go M (pc + 1) lv (.inl (zShr x y) :: st) h Q) : Go M pc lv (.inl y :: .inl x :: st) h Q := by
  refine Go.of k fun r h' S => ?_
  intro base b D cA p l e R s m args below meth c H locs N0 S0 ls Qf C oh rl hn hss hR hl ol os hlo hf
  have K := S base b D cA p l e R s m args below meth c H locs N0 S0 ls Qf C oh rl hn hss hR hl ol (ok_cons (i32_range _) (ok_tl (ok_tl os))) hlo hf
  rw [List.map_cons, show rv (ga base b) (.inl (zShr x y)) = .int (Int32.ofInt x >>> (Int32.ofInt y &&& 31)) from congrArg Value.int (i32_of _)] at K
  exact lv_ishr C.1 C.2.1 hd K
theorem s_iushr {M : MI} {pc : Nat} {lv : List (Nat × AV)} {st : List AV} {h : Hp} {Q : Option AV → Hp → Prop} {x y : Int} (hd : decode M.2.1 pc = .ok (.iushr, 1)) (k : Go M (pc + 1) lv (.inl (zUshr x y) :: st) h Q) : Go M pc lv (.inl y :: .inl x :: st) h Q := by
  refine Go.of k fun r h' S => ?_
  intro base b D cA p l e R s m args below meth c H locs N0 S0 ls Qf C oh rl hn hss hR hl ol os hlo hf
  have K := S base b D cA p l e R s m args below meth c H locs N0 S0 ls Qf C oh rl hn hss hR hl ol (ok_cons (i32_range _) (ok_tl (ok_tl os))) hlo hf
  rw [List.map_cons, show rv (ga base b) (.inl (zUshr x y)) = .int (((Int32.ofInt x).toUInt32 >>> ((Int32.ofInt y).toUInt32 &&& Int32.toUInt32 31)).toInt32) from congrArg Value.int (i32_of _)] at K
  exact lv_iushr C.1 C.2.1 hd rfl K
theorem s_land {M : MI} {pc : Nat} {lv : List (Nat × AV)} {st : List AV} {h : Hp} {Q : Option AV → Hp → Prop} {x y : Int} (hd : decode M.2.1 pc = .ok (.land, 1)) (k : Go M (pc + 1) lv (.inr (.inl (zLand x y)) :: st) h Q) : Go M pc lv (.inr (.inl y) :: .inr (.inl x) :: st) h Q := by
  refine Go.of k fun r h' S => ?_
  intro base b D cA p l e R s m args below meth c H locs N0 S0 ls Qf C oh rl hn hss hR hl ol os hlo hf
  have K := S base b D cA p l e R s m args below meth c H locs N0 S0 ls Qf C oh rl hn hss hR hl ol (ok_cons (i64_range _) (ok_tl (ok_tl os))) hlo hf
  rw [List.map_cons, show rv (ga base b) (.inr (.inl (zLand x y))) = .long (Int64.ofInt x &&& Int64.ofInt y) from congrArg Value.long (Int64.ofInt_toInt _)] at K
  exact lv_land C.1 C.2.1 hd K
theorem zCmp_ok (x y : Int) : okv (.inl (zCmp x y)) := by
  unfold zCmp
  split
  · exact ⟨by omega, by omega⟩
  · split <;> exact ⟨by omega, by omega⟩
theorem lg_zCmp {x y : Int} (hx : okv (.inr (.inl x))) (hy : okv (.inr (.inl y))) : lg_cmp (Int64.ofInt x) (Int64.ofInt y) = Int32.ofInt (zCmp x y) := by
  unfold lg_cmp zCmp
  have e1 : Int64.ofInt x > Int64.ofInt y ↔ y < x := by
    show Int64.ofInt y < Int64.ofInt x ↔ _
    rw [Int64.lt_iff_toInt_lt, i64_toInt hx, i64_toInt hy]
  have e2 : Int64.ofInt x = Int64.ofInt y ↔ x = y := by
    constructor
    · intro e; rw [← i64_toInt hx, ← i64_toInt hy, e]
    · intro e; rw [e]
  by_cases h1 : y < x
  · rw [if_pos (e1.mpr h1), if_pos h1]; rfl
  · rw [if_neg (fun z => h1 (e1.mp z)), if_neg h1]
    by_cases h2 : x = y
    · rw [if_pos (e2.mpr h2), if_pos h2]; rfl
    · rw [if_neg (fun z => h2 (e2.mp z)), if_neg h2]; rfl

theorem s_lcmp {M : MI} {pc : Nat} {lv : List (Nat × AV)} {st : List AV} {h : Hp} {Q : Option AV → Hp → Prop} {x y : Int} (hd : decode M.2.1 pc = .ok (.lcmp, 1)) (k : Go M (pc + 1) lv (.inl (zCmp x y) :: st) h Q) : Go M pc lv (.inr (.inl y) :: .inr (.inl x) :: st) h Q := by
  refine Go.of k fun r h' S => ?_
  intro base b D cA p l e R s m args below meth c H locs N0 S0 ls Qf C oh rl hn hss hR hl ol os hlo hf
  have K := S base b D cA p l e R s m args below meth c H locs N0 S0 ls Qf C oh rl hn hss hR hl ol (ok_cons (zCmp_ok x y) (ok_tl (ok_tl os))) hlo hf
  rw [List.map_cons, show rv (ga base b) (.inl (zCmp x y)) = .int (lg_cmp (Int64.ofInt x) (Int64.ofInt y)) from congrArg Value.int (lg_zCmp (ok_hd (ok_tl os)) (ok_hd os)).symm] at K
  exact W.lcmp C.1 C.2.1 hd K
theorem i2l_eq {x : Int} (hx : okv (.inl x)) : (Int32.ofInt x).toInt64 = Int64.ofInt x := by
  apply Int64.toInt_inj.mp
  rw [Int32.toInt_toInt64, i32_toInt hx, i64_toInt ⟨by have := hx.1; omega, by have := hx.2; omega⟩]
theorem l2i_eq {x : Int} (hx : okv (.inl x)) : (Int64.ofInt x).toInt32 = Int32.ofInt x := by
  have hy : okv (.inr (.inl x)) := ⟨by have := hx.1; omega, by have := hx.2; omega⟩
  apply Int32.toInt_inj.mp
  rw [Int64.toInt_toInt32, i64_toInt hy, ← Int32.toInt_ofInt]
theorem i2b_eq {x : Int} (hx : -128 ≤ x ∧ x ≤ 127) : (Int32.ofInt x).toInt8.toInt32 = Int32.ofInt x := by
  have hy : okv (.inl x) := ⟨by omega, by omega⟩
  apply Int32.toInt_inj.mp
  rw [Int8.toInt_toInt32, Int32.toInt_toInt8, i32_toInt hy]
  exact Int.bmod_eq_of_le (by omega) (by omega)
theorem i2c_eq {x : Int} (hx : 0 ≤ x ∧ x ≤ 65535) : ((Int32.ofInt x).toUInt32 % 65536).toInt32 = Int32.ofInt x := by
  obtain ⟨n, rfl⟩ := Int.eq_ofNat_of_zero_le hx.1
  have h1 : Int32.ofInt (n : Int) = nI n := by
    show Int32.ofInt (n : Int) = Int32.ofNat n
    exact Int32.ofInt_eq_ofNat
  rw [h1, pk_char, pk_tn (by omega)]
  congr 1
  omega

theorem s_i2l {M : MI} {pc : Nat} {lv : List (Nat × AV)} {st : List AV} {h : Hp} {Q : Option AV → Hp → Prop} {x : Int} (hd : decode M.2.1 pc = .ok (.i2l, 1)) (k : Go M (pc + 1) lv (.inr (.inl x) :: st) h Q) : Go M pc lv (.inl x :: st) h Q := by
  refine Go.of k fun r h' S => ?_
  intro base b D cA p l e R s m args below meth c H locs N0 S0 ls Qf C oh rl hn hss hR hl ol os hlo hf
  exact lv_i2l C.1 C.2.1 hd (i2l_eq (ok_hd os)) (S base b D cA p l e R s m args below meth c H locs N0 S0 ls Qf C oh rl hn hss hR hl ol (ok_cons ⟨by have := (ok_hd os).1; omega, by have := (ok_hd os).2; omega⟩ (ok_tl os)) hlo hf)
theorem s_l2i {M : MI} {pc : Nat} {lv : List (Nat × AV)} {st : List AV} {h : Hp} {Q : Option AV → Hp → Prop} {x : Int} (hd : decode M.2.1 pc = .ok (.l2i, 1)) (ho : okv (.inl x)) (k : Go M (pc + 1) lv (.inl x :: st) h Q) : Go M pc lv (.inr (.inl x) :: st) h Q := by
  refine Go.of k fun r h' S => ?_
  intro base b D cA p l e R s m args below meth c H locs N0 S0 ls Qf C oh rl hn hss hR hl ol os hlo hf
  exact lv_l2i C.1 C.2.1 hd (l2i_eq ho) (S base b D cA p l e R s m args below meth c H locs N0 S0 ls Qf C oh rl hn hss hR hl ol (ok_cons ho (ok_tl os)) hlo hf)
theorem s_i2b {M : MI} {pc : Nat} {lv : List (Nat × AV)} {st : List AV} {h : Hp} {Q : Option AV → Hp → Prop} {x : Int} (hd : decode M.2.1 pc = .ok (.i2b, 1)) (ho : -128 ≤ x ∧ x ≤ 127) (k : Go M (pc + 1) lv (.inl x :: st) h Q) : Go M pc lv (.inl x :: st) h Q := by
  refine Go.of k fun r h' S => ?_
  intro base b D cA p l e R s m args below meth c H locs N0 S0 ls Qf C oh rl hn hss hR hl ol os hlo hf
  exact lv_i2b C.1 C.2.1 hd (i2b_eq ho) (S base b D cA p l e R s m args below meth c H locs N0 S0 ls Qf C oh rl hn hss hR hl ol (ok_cons (ok_hd os) (ok_tl os)) hlo hf)
theorem s_i2c {M : MI} {pc : Nat} {lv : List (Nat × AV)} {st : List AV} {h : Hp} {Q : Option AV → Hp → Prop} {x : Int} (hd : decode M.2.1 pc = .ok (.i2c, 1)) (ho : 0 ≤ x ∧ x ≤ 65535) (k : Go M (pc + 1) lv (.inl x :: st) h Q) : Go M pc lv (.inl x :: st) h Q := by
  refine Go.of k fun r h' S => ?_
  intro base b D cA p l e R s m args below meth c H locs N0 S0 ls Qf C oh rl hn hss hR hl ol os hlo hf
  exact lv_i2c C.1 C.2.1 hd (i2c_eq ho) (S base b D cA p l e R s m args below meth c H locs N0 S0 ls Qf C oh rl hn hss hR hl ol (ok_cons (ok_hd os) (ok_tl os)) hlo hf)
theorem s_dup {M : MI} {pc : Nat} {lv : List (Nat × AV)} {st : List AV} {h : Hp} {Q : Option AV → Hp → Prop} {v : AV} (hd : decode M.2.1 pc = .ok (.dup, 1)) (hc : cat v = 1) (k : Go M (pc + 1) lv (v :: v :: st) h Q) : Go M pc lv (v :: st) h Q := by
  refine Go.of k fun r h' S => ?_
  intro base b D cA p l e R s m args below meth c H locs N0 S0 ls Qf C oh rl hn hss hR hl ol os hlo hf
  exact lv_dup C.1 C.2.1 hd ((cat_rv _ v).trans hc) (S base b D cA p l e R s m args below meth c H locs N0 S0 ls Qf C oh rl hn hss hR hl ol (ok_cons (ok_hd os) os) hlo hf)
theorem s_pop {M : MI} {pc : Nat} {lv : List (Nat × AV)} {st : List AV} {h : Hp} {Q : Option AV → Hp → Prop} {v : AV} (hd : decode M.2.1 pc = .ok (.pop, 1)) (hc : cat v = 1) (k : Go M (pc + 1) lv (st) h Q) : Go M pc lv (v :: st) h Q := by
  refine Go.of k fun r h' S => ?_
  intro base b D cA p l e R s m args below meth c H locs N0 S0 ls Qf C oh rl hn hss hR hl ol os hlo hf
  exact lv_pop C.1 C.2.1 hd ((cat_rv _ v).trans hc) (S base b D cA p l e R s m args below meth c H locs N0 S0 ls Qf C oh rl hn hss hR hl ol (ok_tl os) hlo hf)
theorem s_dup2 {M : MI} {pc : Nat} {lv : List (Nat × AV)} {st : List AV} {h : Hp} {Q : Option AV → Hp → Prop} {v w : AV} (hd : decode M.2.1 pc = .ok (.dup2, 1)) (hc : cat v = 1) (hc2 : cat w = 1) (k : Go M (pc + 1) lv (v :: w :: v :: w :: st) h Q) : Go M pc lv (v :: w :: st) h Q := by
  refine Go.of k fun r h' S => ?_
  intro base b D cA p l e R s m args below meth c H locs N0 S0 ls Qf C oh rl hn hss hR hl ol os hlo hf
  exact lv_dup2_11 C.1 C.2.1 hd ((cat_rv _ v).trans hc) ((cat_rv _ w).trans hc2) (S base b D cA p l e R s m args below meth c H locs N0 S0 ls Qf C oh rl hn hss hR hl ol (ok_cons (ok_hd os) (ok_cons (ok_hd (ok_tl os)) os)) hlo hf)
theorem s_goto {M : MI} {pc : Nat} {lv : List (Nat × AV)} {st : List AV} {h : Hp} {Q : Option AV → Hp → Prop} {off : Int} {tgt : Nat} (hd : decode M.2.1 pc = .ok (.goto off, 3)) (ht : (pc : Int) + off = (tgt : Int)) (k : Go M tgt lv (st) h Q) : Go M pc lv (st) h Q := by
  refine Go.of k fun r h' S => ?_
  intro base b D cA p l e R s m args below meth c H locs N0 S0 ls Qf C oh rl hn hss hR hl ol os hlo hf
  exact lv_goto C.1 C.2.1 hd ht (S base b D cA p l e R s m args below meth c H locs N0 S0 ls Qf C oh rl hn hss hR hl ol os hlo hf)
theorem s_icmp_eq {M : MI} {pc : Nat} {lv : List (Nat × AV)} {st : List AV} {h : Hp} {Q : Option AV → Hp → Prop} {x y : Int} {off : Int} {tgt : Nat} (hd : decode M.2.1 pc = .ok (.if_icmp .eq off, 3)) (ht : (pc : Int) + off = (tgt : Int)) (kt : x = y → Go M tgt lv st h Q) (kf : ¬ x = y → Go M (pc + 3) lv st h Q) : Go M pc lv (.inl y :: .inl x :: st) h Q := by
  by_cases hz : x = y
  · refine Go.of (kt hz) fun r h' S => ?_
    intro base b D cA p l e R s m args below meth c H locs N0 S0 ls Qf C oh rl hn hss hR hl ol os hlo hf
    have hi : Int32.ofInt x = Int32.ofInt y ↔ x = y := i32_eq (ok_hd (ok_tl os)) (ok_hd os)
    exact lv_icmp_eq C.1 C.2.1 hd ht (fun _ => (S base b D cA p l e R s m args below meth c H locs N0 S0 ls Qf C oh rl hn hss hR hl ol (ok_tl (ok_tl os)) hlo hf)) (fun n => absurd (hi.mpr hz) n)
  · refine Go.of (kf hz) fun r h' S => ?_
    intro base b D cA p l e R s m args below meth c H locs N0 S0 ls Qf C oh rl hn hss hR hl ol os hlo hf
    have hi : Int32.ofInt x = Int32.ofInt y ↔ x = y := i32_eq (ok_hd (ok_tl os)) (ok_hd os)
    exact lv_icmp_eq C.1 C.2.1 hd ht (fun n => absurd (hi.mp n) hz) (fun _ => (S base b D cA p l e R s m args below meth c H locs N0 S0 ls Qf C oh rl hn hss hR hl ol (ok_tl (ok_tl os)) hlo hf))
theorem s_icmp_ne {M : MI} {pc : Nat} {lv : List (Nat × AV)} {st : List AV} {h : Hp} {Q : Option AV → Hp → Prop} {x y : Int} {off : Int} {tgt : Nat} (hd : decode M.2.1 pc = .ok (.if_icmp .ne off, 3)) (ht : (pc : Int) + off = (tgt : Int)) (kt : x ≠ y → Go M tgt lv st h Q) (kf : x = y → Go M (pc + 3) lv st h Q) : Go M pc lv (.inl y :: .inl x :: st) h Q := by
  by_cases hz : x ≠ y
  · refine Go.of (kt hz) fun r h' S => ?_
    intro base b D cA p l e R s m args below meth c H locs N0 S0 ls Qf C oh rl hn hss hR hl ol os hlo hf
    have hi : Int32.ofInt x ≠ Int32.ofInt y ↔ x ≠ y := not_congr (i32_eq (ok_hd (ok_tl os)) (ok_hd os))
    exact lv_icmp_ne C.1 C.2.1 hd ht (fun _ => (S base b D cA p l e R s m args below meth c H locs N0 S0 ls Qf C oh rl hn hss hR hl ol (ok_tl (ok_tl os)) hlo hf)) (fun n => absurd n (hi.mpr hz))
  · refine Go.of (kf (Decidable.of_not_not hz)) fun r h' S => ?_
    intro base b D cA p l e R s m args below meth c H locs N0 S0 ls Qf C oh rl hn hss hR hl ol os hlo hf
    have hi : Int32.ofInt x ≠ Int32.ofInt y ↔ x ≠ y := not_congr (i32_eq (ok_hd (ok_tl os)) (ok_hd os))
    exact lv_icmp_ne C.1 C.2.1 hd ht (fun n => absurd (hi.mp n) hz) (fun _ => (S base b D cA p l e R s m args below meth c H locs N0 S0 ls Qf C oh rl hn hss hR hl ol (ok_tl (ok_tl os)) hlo hf))
theorem s_icmp_lt {M : MI} {pc : Nat} {lv : List (Nat × AV)} {st : List AV} {h : Hp} {Q : Option AV → Hp → Prop} {x y : Int} {off : Int} {tgt : Nat} (hd : decode M.2.1 pc = .ok (.if_icmp .lt off, 3)) (ht : (pc : Int) + off = (tgt : Int)) (kt : x < y → Go M tgt lv st h Q) (kf : ¬ x < y → Go M (pc + 3) lv st h Q) : Go M pc lv (.inl y :: .inl x :: st) h Q := by
  by_cases hz : x < y
  · refine Go.of (kt hz) fun r h' S => ?_
    intro base b D cA p l e R s m args below meth c H locs N0 S0 ls Qf C oh rl hn hss hR hl ol os hlo hf
    have hi : Int32.ofInt x < Int32.ofInt y ↔ x < y := i32_lt (ok_hd (ok_tl os)) (ok_hd os)
    exact lv_icmp_lt C.1 C.2.1 hd ht (fun _ => (S base b D cA p l e R s m args below meth c H locs N0 S0 ls Qf C oh rl hn hss hR hl ol (ok_tl (ok_tl os)) hlo hf)) (fun n => absurd (hi.mpr hz) n)
  · refine Go.of (kf hz) fun r h' S => ?_
    intro base b D cA p l e R s m args below meth c H locs N0 S0 ls Qf C oh rl hn hss hR hl ol os hlo hf
    have hi : Int32.ofInt x < Int32.ofInt y ↔ x < y := i32_lt (ok_hd (ok_tl os)) (ok_hd os)
    exact lv_icmp_lt C.1 C.2.1 hd ht (fun n => absurd (hi.mp n) hz) (fun _ => (S base b D cA p l e R s m args below meth c H locs N0 S0 ls Qf C oh rl hn hss hR hl ol (ok_tl (ok_tl os)) hlo hf))
theorem s_icmp_ge {M : MI} {pc : Nat} {lv : List (Nat × AV)} {st : List AV} {h : Hp} {Q : Option AV → Hp → Prop} {x y : Int} {off : Int} {tgt : Nat} (hd : decode M.2.1 pc = .ok (.if_icmp .ge off, 3)) (ht : (pc : Int) + off = (tgt : Int)) (kt : y ≤ x → Go M tgt lv st h Q) (kf : ¬ y ≤ x → Go M (pc + 3) lv st h Q) : Go M pc lv (.inl y :: .inl x :: st) h Q := by
  by_cases hz : y ≤ x
  · refine Go.of (kt hz) fun r h' S => ?_
    intro base b D cA p l e R s m args below meth c H locs N0 S0 ls Qf C oh rl hn hss hR hl ol os hlo hf
    have hi : Int32.ofInt y ≤ Int32.ofInt x ↔ y ≤ x := i32_le (ok_hd os) (ok_hd (ok_tl os))
    exact lv_icmp_ge C.1 C.2.1 hd ht (fun _ => (S base b D cA p l e R s m args below meth c H locs N0 S0 ls Qf C oh rl hn hss hR hl ol (ok_tl (ok_tl os)) hlo hf)) (fun n => absurd (hi.mpr hz) n)
  · refine Go.of (kf hz) fun r h' S => ?_
    intro base b D cA p l e R s m args below meth c H locs N0 S0 ls Qf C oh rl hn hss hR hl ol os hlo hf
    have hi : Int32.ofInt y ≤ Int32.ofInt x ↔ y ≤ x := i32_le (ok_hd os) (ok_hd (ok_tl os))
    exact lv_icmp_ge C.1 C.2.1 hd ht (fun n => absurd (hi.mp n) hz) (fun _ => (S base b D cA p l e R s m args below meth c H locs N0 S0 ls Qf C oh rl hn hss hR hl ol (ok_tl (ok_tl os)) hlo hf))
theorem s_icmp_gt {M : MI} {pc : Nat} {lv : List (Nat × AV)} {st : List AV} {h : Hp} {Q : Option AV → Hp → Prop} {x y : Int} {off : Int} {tgt : Nat} (hd : decode M.2.1 pc = .ok (.if_icmp .gt off, 3)) (ht : (pc : Int) + off = (tgt : Int)) (kt : y < x → Go M tgt lv st h Q) (kf : ¬ y < x → Go M (pc + 3) lv st h Q) : Go M pc lv (.inl y :: .inl x :: st) h Q := by
  by_cases hz : y < x
  · refine Go.of (kt hz) fun r h' S => ?_
    intro base b D cA p l e R s m args below meth c H locs N0 S0 ls Qf C oh rl hn hss hR hl ol os hlo hf
    have hi : Int32.ofInt y < Int32.ofInt x ↔ y < x := i32_lt (ok_hd os) (ok_hd (ok_tl os))
    exact lv_icmp_gt C.1 C.2.1 hd ht (fun _ => (S base b D cA p l e R s m args below meth c H locs N0 S0 ls Qf C oh rl hn hss hR hl ol (ok_tl (ok_tl os)) hlo hf)) (fun n => absurd (hi.mpr hz) n)
  · refine Go.of (kf hz) fun r h' S => ?_
    intro base b D cA p l e R s m args below meth c H locs N0 S0 ls Qf C oh rl hn hss hR hl ol os hlo hf
    have hi : Int32.ofInt y < Int32.ofInt x ↔ y < x := i32_lt (ok_hd os) (ok_hd (ok_tl os))
    exact lv_icmp_gt C.1 C.2.1 hd ht (fun n => absurd (hi.mp n) hz) (fun _ => (S base b D cA p l e R s m args below meth c H locs N0 S0 ls Qf C oh rl hn hss hR hl ol (ok_tl (ok_tl os)) hlo hf))
theorem s_icmp_le {M : MI} {pc : Nat} {lv : List (Nat × AV)} {st : List AV} {h : Hp} {Q : Option AV → Hp → Prop} {x y : Int} {off : Int} {tgt : Nat} (hd : decode M.2.1 pc = .ok (.if_icmp .le off, 3)) (ht : (pc : Int) + off = (tgt : Int)) (kt : x ≤ y → Go M tgt lv st h Q) (kf : ¬ x ≤ y → Go M (pc + 3) lv st h Q) : Go M pc lv (.inl y :: .inl x :: st) h Q := by
  by_cases hz : x ≤ y
  · refine Go.of (kt hz) fun r h' S => ?_
    intro base b D cA p l e R s m args below meth c H locs N0 S0 ls Qf C oh rl hn hss hR hl ol os hlo hf
    have hi : Int32.ofInt x ≤ Int32.ofInt y ↔ x ≤ y := i32_le (ok_hd (ok_tl os)) (ok_hd os)
    exact lv_icmp_le C.1 C.2.1 hd ht (fun _ => (S base b D cA p l e R s m args below meth c H locs N0 S0 ls Qf C oh rl hn hss hR hl ol (ok_tl (ok_tl os)) hlo hf)) (fun n => absurd (hi.mpr hz) n)
  · refine Go.of (kf hz) fun r h' S => ?_
    intro base b D cA p l e R s m args below meth c H locs N0 S0 ls Qf C oh rl hn hss hR hl ol os hlo hf
    have hi : Int32.ofInt x ≤ Int32.ofInt y ↔ x ≤ y := i32_le (ok_hd (ok_tl os)) (ok_hd os)
    exact lv_icmp_le C.1 C.2.1 hd ht (fun n => absurd (hi.mp n) hz) (fun _ => (S base b D cA p l e R s m args below meth c H locs N0 S0 ls Qf C oh rl hn hss hR hl ol (ok_tl (ok_tl os)) hlo hf))
theorem s_if_eq {M : MI} {pc : Nat} {lv : List (Nat × AV)} {st : List AV} {h : Hp} {Q : Option AV → Hp → Prop} {x : Int} {off : Int} {tgt : Nat} (hd : decode M.2.1 pc = .ok (.ifCond .eq off, 3)) (ht : (pc : Int) + off = (tgt : Int)) (kt : x = 0 → Go M tgt lv st h Q) (kf : ¬ x = 0 → Go M (pc + 3) lv st h Q) : Go M pc lv (.inl x :: st) h Q := by
  by_cases hz : x = 0
  · refine Go.of (kt hz) fun r h' S => ?_
    intro base b D cA p l e R s m args below meth c H locs N0 S0 ls Qf C oh rl hn hss hR hl ol os hlo hf
    have hi : Int32.ofInt x = 0 ↔ x = 0 := i32_eq (ok_hd os) (show okv (.inl 0) from ⟨by omega, by omega⟩)
    exact lv_if_eq C.1 C.2.1 hd ht (fun _ => (S base b D cA p l e R s m args below meth c H locs N0 S0 ls Qf C oh rl hn hss hR hl ol (ok_tl os) hlo hf)) (fun n => absurd (hi.mpr hz) n)
  · refine Go.of (kf hz) fun r h' S => ?_
    intro base b D cA p l e R s m args below meth c H locs N0 S0 ls Qf C oh rl hn hss hR hl ol os hlo hf
    have hi : Int32.ofInt x = 0 ↔ x = 0 := i32_eq (ok_hd os) (show okv (.inl 0) from ⟨by omega, by omega⟩)
    exact lv_if_eq C.1 C.2.1 hd ht (fun n => absurd (hi.mp n) hz) (fun _ => (S base b D cA p l e R s m args below meth c H locs N0 S0 ls Qf C oh rl hn hss hR hl ol (ok_tl os) hlo hf))
theorem s_if_ne {M : MI} {pc : Nat} {lv : List (Nat × AV)} {st : List AV} {h : Hp} {Q : Option AV → Hp → Prop} {x : Int} {off : Int} {tgt : Nat} (hd : decode M.2.1 pc = .ok (.ifCond .ne off, 3)) (ht : (pc : Int) + off = (tgt : Int)) (kt : x ≠ 0 → Go M tgt lv st h Q) (kf : x = 0 → Go M (pc + 3) lv st h Q) : Go M pc lv (.inl x :: st) h Q := by
  by_cases hz : x ≠ 0
  · refine Go.of (kt hz) fun r h' S => ?_
    intro base b D cA p l e R s m args below meth c H locs N0 S0 ls Qf C oh rl hn hss hR hl ol os hlo hf
    have hi : Int32.ofInt x ≠ 0 ↔ x ≠ 0 := not_congr (i32_eq (ok_hd os) (show okv (.inl 0) from ⟨by omega, by omega⟩))
    exact lv_if_ne C.1 C.2.1 hd ht (fun _ => (S base b D cA p l e R s m args below meth c H locs N0 S0 ls Qf C oh rl hn hss hR hl ol (ok_tl os) hlo hf)) (fun n => absurd n (hi.mpr hz))
  · refine Go.of (kf (Decidable.of_not_not hz)) fun r h' S => ?_
    intro base b D cA p l e R s m args below meth c H locs N0 S0 ls Qf C oh rl hn hss hR hl ol os hlo hf
    have hi : Int32.ofInt x ≠ 0 ↔ x ≠ 0 := not_congr (i32_eq (ok_hd os) (show okv (.inl 0) from ⟨by omega, by omega⟩))
    exact lv_if_ne C.1 C.2.1 hd ht (fun n => absurd (hi.mp n) hz) (fun _ => (S base b D cA p l e R s m args below meth c H locs N0 S0 ls Qf C oh rl hn hss hR hl ol (ok_tl os) hlo hf))
theorem s_if_lt {M : MI} {pc : Nat} {lv : List (Nat × AV)} {st : List AV} {h : Hp} {Q : Option AV → Hp → Prop} {x : Int} {off : Int} {tgt : Nat} (hd : decode M.2.1 pc = .ok (.ifCond .lt off, 3)) (ht : (pc : Int) + off = (tgt : Int)) (kt : x < 0 → Go M tgt lv st h Q) (kf : ¬ x < 0 → Go M (pc + 3) lv st h Q) : Go M pc lv (.inl x :: st) h Q := by
  by_cases hz : x < 0
  · refine Go.of (kt hz) fun r h' S => ?_
    intro base b D cA p l e R s m args below meth c H locs N0 S0 ls Qf C oh rl hn hss hR hl ol os hlo hf
    have hi : Int32.ofInt x < 0 ↔ x < 0 := i32_lt (ok_hd os) (show okv (.inl 0) from ⟨by omega, by omega⟩)
    exact lv_if_lt C.1 C.2.1 hd ht (fun _ => (S base b D cA p l e R s m args below meth c H locs N0 S0 ls Qf C oh rl hn hss hR hl ol (ok_tl os) hlo hf)) (fun n => absurd (hi.mpr hz) n)
  · refine Go.of (kf hz) fun r h' S => ?_
    intro base b D cA p l e R s m args below meth c H locs N0 S0 ls Qf C oh rl hn hss hR hl ol os hlo hf
    have hi : Int32.ofInt x < 0 ↔ x < 0 := i32_lt (ok_hd os) (show okv (.inl 0) from ⟨by omega, by omega⟩)
    exact lv_if_lt C.1 C.2.1 hd ht (fun n => absurd (hi.mp n) hz) (fun _ => (S base b D cA p l e R s m args below meth c H locs N0 S0 ls Qf C oh rl hn hss hR hl ol (ok_tl os) hlo hf))
theorem s_if_ge {M : MI} {pc : Nat} {lv : List (Nat × AV)} {st : List AV} {h : Hp} {Q : Option AV → Hp → Prop} {x : Int} {off : Int} {tgt : Nat} (hd : decode M.2.1 pc = .ok (.ifCond .ge off, 3)) (ht : (pc : Int) + off = (tgt : Int)) (kt : 0 ≤ x → Go M tgt lv st h Q) (kf : ¬ 0 ≤ x → Go M (pc + 3) lv st h Q) : Go M pc lv (.inl x :: st) h Q := by
  by_cases hz : 0 ≤ x
  · refine Go.of (kt hz) fun r h' S => ?_
    intro base b D cA p l e R s m args below meth c H locs N0 S0 ls Qf C oh rl hn hss hR hl ol os hlo hf
    have hi : 0 ≤ Int32.ofInt x ↔ 0 ≤ x := i32_le (show okv (.inl 0) from ⟨by omega, by omega⟩) (ok_hd os)
    exact lv_if_ge C.1 C.2.1 hd ht (fun _ => (S base b D cA p l e R s m args below meth c H locs N0 S0 ls Qf C oh rl hn hss hR hl ol (ok_tl os) hlo hf)) (fun n => absurd (hi.mpr hz) n)
  · refine Go.of (kf hz) fun r h' S => ?_
    intro base b D cA p l e R s m args below meth c H locs N0 S0 ls Qf C oh rl hn hss hR hl ol os hlo hf
    have hi : 0 ≤ Int32.ofInt x ↔ 0 ≤ x := i32_le (show okv (.inl 0) from ⟨by omega, by omega⟩) (ok_hd os)
    exact lv_if_ge C.1 C.2.1 hd ht (fun n => absurd (hi.mp n) hz) (fun _ => (S base b D cA p l e R s m args below meth c H locs N0 S0 ls Qf C oh rl hn hss hR hl ol (ok_tl os) hlo hf))
theorem s_if_gt {M : MI} {pc : Nat} {lv : List (Nat × AV)} {st : List AV} {h : Hp} {Q : Option AV → Hp → Prop} {x : Int} {off : Int} {tgt : Nat} (hd : decode M.2.1 pc = .ok (.ifCond .gt off, 3)) (ht : (pc : Int) + off = (tgt : Int)) (kt : 0 < x → Go M tgt lv st h Q) (kf : ¬ 0 < x → Go M (pc + 3) lv st h Q) : Go M pc lv (.inl x :: st) h Q := by
  by_cases hz : 0 < x
  · refine Go.of (kt hz) fun r h' S => ?_
    intro base b D cA p l e R s m args below meth c H locs N0 S0 ls Qf C oh rl hn hss hR hl ol os hlo hf
    have hi : 0 < Int32.ofInt x ↔ 0 < x := i32_lt (show okv (.inl 0) from ⟨by omega, by omega⟩) (ok_hd os)
    exact lv_if_gt C.1 C.2.1 hd ht (fun _ => (S base b D cA p l e R s m args below meth c H locs N0 S0 ls Qf C oh rl hn hss hR hl ol (ok_tl os) hlo hf)) (fun n => absurd (hi.mpr hz) n)
  · refine Go.of (kf hz) fun r h' S => ?_
    intro base b D cA p l e R s m args below meth c H locs N0 S0 ls Qf C oh rl hn hss hR hl ol os hlo hf
    have hi : 0 < Int32.ofInt x ↔ 0 < x := i32_lt (show okv (.inl 0) from ⟨by omega, by omega⟩) (ok_hd os)
    exact lv_if_gt C.1 C.2.1 hd ht (fun n => absurd (hi.mp n) hz) (fun _ => (S base b D cA p l e R s m args below meth c H locs N0 S0 ls Qf C oh rl hn hss hR hl ol (ok_tl os) hlo hf))
theorem s_if_le {M : MI} {pc : Nat} {lv : List (Nat × AV)} {st : List AV} {h : Hp} {Q : Option AV → Hp → Prop} {x : Int} {off : Int} {tgt : Nat} (hd : decode M.2.1 pc = .ok (.ifCond .le off, 3)) (ht : (pc : Int) + off = (tgt : Int)) (kt : x ≤ 0 → Go M tgt lv st h Q) (kf : ¬ x ≤ 0 → Go M (pc + 3) lv st h Q) : Go M pc lv (.inl x :: st) h Q := by
  by_cases hz : x ≤ 0
  · refine Go.of (kt hz) fun r h' S => ?_
    intro base b D cA p l e R s m args below meth c H locs N0 S0 ls Qf C oh rl hn hss hR hl ol os hlo hf
    have hi : Int32.ofInt x ≤ 0 ↔ x ≤ 0 := i32_le (ok_hd os) (show okv (.inl 0) from ⟨by omega, by omega⟩)
    exact lv_if_le C.1 C.2.1 hd ht (fun _ => (S base b D cA p l e R s m args below meth c H locs N0 S0 ls Qf C oh rl hn hss hR hl ol (ok_tl os) hlo hf)) (fun n => absurd (hi.mpr hz) n)
  · refine Go.of (kf hz) fun r h' S => ?_
    intro base b D cA p l e R s m args below meth c H locs N0 S0 ls Qf C oh rl hn hss hR hl ol os hlo hf
    have hi : Int32.ofInt x ≤ 0 ↔ x ≤ 0 := i32_le (ok_hd os) (show okv (.inl 0) from ⟨by omega, by omega⟩)
    exact lv_if_le C.1 C.2.1 hd ht (fun n => absurd (hi.mp n) hz) (fun _ => (S base b D cA p l e R s m args below meth c H locs N0 S0 ls Qf C oh rl hn hss hR hl ol (ok_tl os) hlo hf))
theorem s_ifnull {M : MI} {pc : Nat} {lv : List (Nat × AV)} {st : List AV} {h : Hp} {Q : Option AV → Hp → Prop} {x : Nat} {off : Int} {tgt : Nat} (hd : decode M.2.1 pc = .ok (.ifnull off, 3)) (ht : (pc : Int) + off = (tgt : Int)) (kt : x = 0 → Go M tgt lv st h Q) (kf : ¬ x = 0 → Go M (pc + 3) lv st h Q) : Go M pc lv (.inr (.inr x) :: st) h Q := by
  by_cases hz : x = 0
  · refine Go.of (kt hz) fun r h' S => ?_
    intro base b D cA p l e R s m args below meth c H locs N0 S0 ls Qf C oh rl hn hss hR hl ol os hlo hf
    subst hz
    exact lv_ifnullN C.1 C.2.1 hd ht (S base b D cA p l e R s m args below meth c H locs N0 S0 ls Qf C oh rl hn hss hR hl ol (ok_tl os) hlo hf)
  · refine Go.of (kf hz) fun r h' S => ?_
    intro base b D cA p l e R s m args below meth c H locs N0 S0 ls Qf C oh rl hn hss hR hl ol os hlo hf
    rw [List.map_cons, show rv (ga base b) (.inr (.inr x)) = .ref (ga base b x) by show rr _ _ = _; unfold rr; rw [if_neg hz]]
    exact lv_ifnull C.1 C.2.1 hd (S base b D cA p l e R s m args below meth c H locs N0 S0 ls Qf C oh rl hn hss hR hl ol (ok_tl os) hlo hf)
theorem s_ifnonnull {M : MI} {pc : Nat} {lv : List (Nat × AV)} {st : List AV} {h : Hp} {Q : Option AV → Hp → Prop} {x : Nat} {off : Int} {tgt : Nat} (hd : decode M.2.1 pc = .ok (.ifnonnull off, 3)) (ht : (pc : Int) + off = (tgt : Int)) (kt : x ≠ 0 → Go M tgt lv st h Q) (kf : ¬ x ≠ 0 → Go M (pc + 3) lv st h Q) : Go M pc lv (.inr (.inr x) :: st) h Q := by
  by_cases hz : x = 0
  · refine Go.of (kf (fun n => n hz)) fun r h' S => ?_
    intro base b D cA p l e R s m args below meth c H locs N0 S0 ls Qf C oh rl hn hss hR hl ol os hlo hf
    subst hz
    exact lv_ifnonnullN C.1 C.2.1 hd (S base b D cA p l e R s m args below meth c H locs N0 S0 ls Qf C oh rl hn hss hR hl ol (ok_tl os) hlo hf)
  · refine Go.of (kt hz) fun r h' S => ?_
    intro base b D cA p l e R s m args below meth c H locs N0 S0 ls Qf C oh rl hn hss hR hl ol os hlo hf
    rw [List.map_cons, show rv (ga base b) (.inr (.inr x)) = .ref (ga base b x) by show rr _ _ = _; unfold rr; rw [if_neg hz]]
    exact lv_ifnonnull C.1 C.2.1 hd ht (S base b D cA p l e R s m args below meth c H locs N0 S0 ls Qf C oh rl hn hss hR hl ol (ok_tl os) hlo hf)
theorem s_tswOut {M : MI} {pc : Nat} {lv : List (Nat × AV)} {st : List AV} {h : Hp} {Q : Option AV → Hp → Prop} {dflt lo hi : Int} {offs : Array Int} {len tgt : Nat} {x : Int} (hd : decode M.2.1 pc = .ok (.tableswitch dflt lo hi offs, len)) (hx : x < lo ∨ hi < x) (ht : (pc : Int) + dflt = (tgt : Int)) (k : Go M tgt lv (st) h Q) : Go M pc lv (.inl x :: st) h Q := by
  refine Go.of k fun r h' S => ?_
  intro base b D cA p l e R s m args below meth c H locs N0 S0 ls Qf C oh rl hn hss hR hl ol os hlo hf
  exact lv_tableOut C.1 C.2.1 hd (by rw [i32_toInt (ok_hd os)]; exact hx) ht (S base b D cA p l e R s m args below meth c H locs N0 S0 ls Qf C oh rl hn hss hR hl ol (ok_tl os) hlo hf)
theorem s_tswIn {M : MI} {pc : Nat} {lv : List (Nat × AV)} {st : List AV} {h : Hp} {Q : Option AV → Hp → Prop} {dflt lo hi off : Int} {offs : Array Int} {len tgt : Nat} {x : Int} (hd : decode M.2.1 pc = .ok (.tableswitch dflt lo hi offs, len)) (h1 : ¬ x < lo) (h2 : ¬ hi < x) (ho : offs[(x - lo).toNat]? = some off) (ht : (pc : Int) + off = (tgt : Int)) (k : Go M tgt lv (st) h Q) : Go M pc lv (.inl x :: st) h Q := by
  refine Go.of k fun r h' S => ?_
  intro base b D cA p l e R s m args below meth c H locs N0 S0 ls Qf C oh rl hn hss hR hl ol os hlo hf
  exact lv_tableIn C.1 C.2.1 hd (by rw [i32_toInt (ok_hd os)]; exact h1) (by rw [i32_toInt (ok_hd os)]; exact h2) (by rw [i32_toInt (ok_hd os)]; exact ho) ht (S base b D cA p l e R s m args below meth c H locs N0 S0 ls Qf C oh rl hn hss hR hl ol (ok_tl os) hlo hf)
theorem s_lsw {M : MI} {pc : Nat} {lv : List (Nat × AV)} {st : List AV} {h : Hp} {Q : Option AV → Hp → Prop} {dflt off : Int} {ps : Array (Int × Int)} {len tgt : Nat} {x : Int} (hd : decode M.2.1 pc = .ok (.lookupswitch dflt ps, len)) (hp : (ps.toList.zip (ps.toList.drop 1)).all (fun (a, next) => a.1 < next.1) = true) (ho : Op.lookupswitch.offset ps.toList dflt x = off) (ht : (pc : Int) + off = (tgt : Int)) (k : Go M tgt lv (st) h Q) : Go M pc lv (.inl x :: st) h Q := by
  refine Go.of k fun r h' S => ?_
  intro base b D cA p l e R s m args below meth c H locs N0 S0 ls Qf C oh rl hn hss hR hl ol os hlo hf
  exact lv_lookup C.1 C.2.1 hd hp (by rw [i32_toInt (ok_hd os)]; exact ho) ht (S base b D cA p l e R s m args below meth c H locs N0 S0 ls Qf C oh rl hn hss hR hl ol (ok_tl os) hlo hf)
