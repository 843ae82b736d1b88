/-! ENGINE, part 6: a method's contract out of Go, and the rows of the calls -/
def wsM (M : MI) : List Cond := Cond.code M.1 M.2.1 M.2.2.1 M.2.2.2.1 :: gtbl
def PcOf (base b : Nat) (D : va_G) (cA : Nat → ClassId) (as : List AV) (h : Hp) : Array Value → State → Prop := fun v U => v = (as.map (rv (ga base b))).toArray ∧ okH h ∧ Rel base b D cA U h U.heap ∧ Kn D cA U
def QcOf (base b : Nat) (D : va_G) (cA : Nat → ClassId) (r : Option AV) (h' : Hp) : Array Value → State → Outcome → State → Prop := fun _ _ o t => o = .returned (r.map (rv (ga base b))) ∧ okH h' ∧ Rel base b D cA t h' t.heap ∧ ∀ v, r = some v → okv v
def lvA : Nat → List AV → List (Nat × AV)
  | _, [] => []
  | i, v :: vs => (i, v) :: lvA (i + 1) vs
theorem lvA_R (g : Nat → Nat) : ∀ (as : List AV) (i : Nat), (∀ v ∈ as, cat v = 1) → lv_args i (as.map (rv g)) = lvR g (lvA i as)
  | [], _, _ => rfl
  | v :: vs, i, hc => by
    have h1 : (rv g v).category = 1 := (cat_rv g v).trans (hc v List.mem_cons_self)
    show (i, rv g v) :: lv_args (if (rv g v).category = 2 then i + 2 else i + 1) (vs.map (rv g)) = (i, rv g v) :: lvR g (lvA (i + 1) vs)
    rw [if_neg (by omega), lvA_R g vs (i + 1) (fun w hw => hc w (List.mem_cons_of_mem _ hw))]
theorem lvA_ok : ∀ (as : List AV) (i : Nat), (∀ v ∈ as, okv v) → ∀ q ∈ lvA i as, okv q.2
  | [], _, _, q, hq => by cases hq
  | v :: vs, i, ho, q, hq => by
    rcases List.mem_cons.mp hq with rfl | hq
    · exact ho v List.mem_cons_self
    · exact lvA_ok vs (i + 1) (fun w hw => ho w (List.mem_cons_of_mem _ hw)) q hq
theorem lg_sl_len (vs : List Value) (h : ∀ v ∈ vs, v.category = 1) : (lg_sl vs).length = vs.length := by
  induction vs with
  | nil => rfl
  | cons v t ih =>
    have h1 := h v List.mem_cons_self
    have h2 := ih (fun w hw => h w (List.mem_cons_of_mem _ hw))
    show ((if v.category = 2 then [Slot.val v, .second] else [.val v]) ++ lg_sl t).length = _
    rw [if_neg (by omega), List.length_append, h2]
    simp
    omega
theorem Kn.moved {D : va_G} {cA : Nat → ClassId} {s U : State} (hW : s.WarmedH U.vm) (x : Kn D cA s) : Kn D cA U := ⟨va_K.moved hW.alike x.1, x.2.1.moved hW.alike, x.2.2.1.moved hW.alike, fun q hq => va_Nw.warmM hW (x.2.2.2 q hq)⟩
theorem Rel.moved {base b : Nat} {D : va_G} {cA : Nat → ClassId} {s U : State} {h : Hp} {H : Heap} (hv : s.vm.Alike U.vm) (x : Rel base b D cA s h H) : Rel base b D cA U h H := ⟨x.1, x.2.1, x.2.2.moved hv⟩
/-- what a method must be, so that it can be called -/
def MOk (M : MI) : Prop := Cond.code M.1 M.2.1 M.2.2.1 M.2.2.2.1 ∈ gtbl ∧ Cond.initialized M.1.cls ∈ gtbl ∧ M.1.cls = M.2.2.2.2.1 ∧ (M.1.cls ≠ "java/lang/invoke/MethodHandle" ∧ M.1.cls ≠ "java/lang/invoke/VarHandle") ∧ plainName M.1.cls = true ∧ M.2.2.1 ≤ 9
theorem gtbl_good : GoodIn gtbl gtbl := fun w hw => ⟨hw, good_of_word (List.mem_filter.mp hw).2⟩
theorem wsM_good {M : MI} (hM : MOk M) : GoodIn gtbl (wsM M) := fun w hw => by
  rcases List.mem_cons.mp hw with rfl | hw
  · exact gtbl_good _ hM.1
  · exact gtbl_good w hw
theorem met_of {M : MI} {as : List AV} {h h' : Hp} {r : Option AV} (hM : MOk M) (hc : ∀ v ∈ as, cat v = 1) (ho : ∀ v ∈ as, okv v) (hlen : as.length ≤ M.2.2.1) (e1 : hN h ≤ hN h') (e2 : hS h ≤ hS h') (S : Sim M 0 (lvA 0 as) [] h r h') {base b : Nat} {D : va_G} {cA : Nat → ClassId} (hb : b < base) (l : Launch) :
    Met l M.1 (wsM M) { frames := M.2.2.2.2.2, cells := hN h' - hN h, slots := hS h' - hS h, locals := 36 * M.2.2.2.2.2 } (PcOf base b D cA as h) (QcOf base b D cA r h') (hN h' - hN h) (hS h' - hS h) (fun q => base ≤ q) := by
  refine Met.ofW (cc := M.2.1) (maxL := M.2.2.1) (ret := M.2.2.2.1) hM.2.2.2.2.1 rfl ?_
  intro p e s m args below meth c s₁ B hml hv
  obtain ⟨rfl, oh, rl, kn⟩ := hv
  have hts := atoms_spec (ws := wsM M) B.pre
  have hown : s.vm.findClass M.1.cls = some m.cls := findClass_of_methodNamed B.named
  have hin : meth.name = M.1.name := (name_of_methodNamed B.named B.method).1
  have hcats : ∀ v ∈ as.map (rv (ga base b)), v.category = 1 := by
    intro v hv
    obtain ⟨w, hw, rfl⟩ := List.mem_map.mp hv
    exact (cat_rv _ w).trans (hc w hw)
  have hsl := lg_sl_len _ hcats
  rw [List.length_map] at hsl
  have hl := lv_entry (as.map (rv (ga base b))) (n := M.2.2.1) (by rw [hsl]; exact hlen)
  rw [lg_entry_eq]
  rw [lvA_R _ _ _ hc] at hl
  have C : Cx M base b D cA p s m (as.map (rv (ga base b))).toArray meth c := ⟨B.exec, B.bytes, hml, by rw [← hM.2.2.1]; exact hown, fun w hw => hts w (List.mem_cons_of_mem _ hw), B.returns, B.notSynchronized, fun z => hin.trans z, kn, hb⟩
  have K := S base b D cA p l e (headSpec (wsM M) { frames := M.2.2.2.2.2, cells := hN h' - hN h, slots := hS h' - hS h, locals := 36 * M.2.2.2.2.2 }).room s m (as.map (rv (ga base b))).toArray below meth c s.heap [] (hN h) (hS h) _ (MQ below (QcOf base b D cA r h') (as.map (rv (ga base b))).toArray s (hN h' - hN h) (hS h' - hS h) (fun q => base ≤ q)) C oh rl (Nat.le_refl _) (Nat.le_refl _) ⟨Nat.le_refl _, Nat.le_refl _, Nat.le_refl _, Nat.le_refl _⟩ hl (lvA_ok as 0 ho) (fun v hv => by cases hv) (fun q hq => by cases hq) ?_
  · rw [Nat.sub_self, Nat.sub_self] at K
    exact K
  · intro pc H locs ls hr oh' rl' hov hlo
    have hlocks := B.notSynchronized
    have hq : ∀ t : State, t.heap = H → s.WarmedH t.vm → QcOf base b D cA r h' (as.map (rv (ga base b))).toArray s (.returned (r.map (rv (ga base b)))) t := fun t ht hW => ⟨rfl, oh', by rw [ht]; exact rl'.moved hW.alike, hov⟩
    match r, hr, hq with
    | none, hr, hq => exact W.vret B.exec B.bytes (B.returns.trans hr.1) hq hlo hr.2 hlocks
    | some (.inl z), hr, hq =>
      obtain ⟨ty, h1, h2, h3⟩ := hr
      exact W.zret B.exec B.bytes (B.returns.trans h1) h2 hq hlo h3 hlocks
    | some (.inr (.inl _)), hr, _ => exact absurd hr (fun z => z)
    | some (.inr (.inr k)), hr, hq =>
      obtain ⟨⟨rt, h1, h2⟩, h3⟩ := hr
      refine W.aret B.exec B.bytes (B.returns.trans h1) h2 ?_ hq hlo h3 hlocks
      show rr _ k = _ ∨ ∃ a, rr _ k = _
      unfold rr
      split
      · exact Or.inl rfl
      · exact Or.inr ⟨_, rfl⟩
theorem Pc_blind {base b : Nat} {D : va_G} {cA : Nat → ClassId} {as : List AV} {h : Hp} : FrameBlind (PcOf base b D cA as h) := by
  intro a U g mk x
  obtain ⟨x1, x2, x3, x4⟩ := x
  have hal : U.vm.Alike (U.calling g mk a).vm := Vm.Alike.refl U.vm
  refine ⟨x1, x2, x3.moved hal, va_K.moved hal x4.1, x4.2.1.moved hal, x4.2.2.1.moved hal, fun q hq => ?_⟩
  exact va_tabs rfl (rfl : U.vm = (U.calling g mk a).vm) (x4.2.2.2 q hq)
/-- behind a call -/
theorem call_on {M : MI} {pc : Nat} {lv : List (Nat × AV)} {rest : List AV} {h1 h' : Hp} {r1 r : Option AV} {h : Hp} (S : Sim M (pc + 3) lv (r1.toList ++ rest) h1 r h') (e1 : hN h ≤ hN h1) (e2 : hS h ≤ hS h1)
    {base b : Nat} {D : va_G} {cA : Nat → ClassId} {p : Program} {l : Launch} {e : Env} {R : Room} {s : State} {m : MethodId} {args : Array Value} {below : List Frame} {meth : Method} {c : Code} {H : Heap} {locs : List Loc} {N0 S0 : Nat} {ls : Array Slot} {Qf : State → Prop} {st0 : List Value} {a1 : Array Value}
    (C : Cx M base b D cA p s m args meth c) (hn : N0 ≤ hN h) (hss : S0 ≤ hS h) (hRm : RoomOk M R (hN h' - N0) (hS h' - S0)) (hl : lv_has ls M.2.2.1 (lvR (ga base b) lv)) (ol : ∀ q ∈ lv, okv q.2) (os : ∀ v ∈ rest, okv v) (hlo : ∀ q ∈ locs, base ≤ q.base) (hf : Fin_ M base b D cA p l e R s m args below meth c r h' N0 S0 Qf)
    (hr : va_Run p l e R s m args below meth c H locs (hN h - N0) (hS h - S0) (hN h1 - hN h) (hS h1 - hS h) (F0 m pc ls st0) (rest.map (rv (ga base b))) (QcOf base b D cA r1 h1 a1) (fun q => base ≤ q)) : W p l e R s m args below meth c H locs (hN h - N0) (hS h - S0) Qf (F0 m pc ls st0) := by
  intro T hT X
  obtain ⟨v, st₀, t, T', L, h0, X', hL, f1, f2, ⟨hv, oh1, rl1, ov1⟩, st⟩ := hr T hT X
  cases hv
  have hal : t.vm.Alike s.vm := by rw [← f2]; exact X'.warmed.alike.symm
  have K := S base b D cA p l e R s m args below meth c T'.heap (locs ++ L) N0 S0 ls Qf C oh1 (by rw [f1]; exact rl1.moved hal) (Nat.le_trans hn e1) (Nat.le_trans hss e2) hRm hl ol (fun v hv => by
      rcases List.mem_append.mp hv with z | z
      · exact ov1 v (by cases r1 with | none => cases z | some w => rw [List.mem_singleton.mp z])
      · exact os v z) (fun q hq => by
      rcases List.mem_append.mp hq with z | z
      · exact hlo q z
      · exact hL q z) hf
  rw [show hN h1 - N0 = hN h - N0 + (hN h1 - hN h) by omega, show hS h1 - S0 = hS h - S0 + (hS h1 - hS h) by omega] at K
  obtain ⟨t2, a1, b1⟩ := K T' rfl X'
  refine ⟨t2, st t2 ?_, b1⟩
  have e3 : (r1.map (rv (ga base b))).toList ++ rest.map (rv (ga base b)) = (r1.toList ++ rest).map (rv (ga base b)) := by
    cases r1 <;> simp
  rw [e3]
  exact a1
theorem room_call {M M' : MI} {R : Room} {nc ns : Nat} (hR : RoomOk M R nc ns) (hM' : MOk M') (hlv : M'.2.2.2.2.2 + 1 ≤ M.2.2.2.2.2) : M'.2.2.2.2.2 + 1 ≤ R.frames ∧ 8 + (M'.2.2.1 + 11) + 36 * M'.2.2.2.2.2 ≤ R.locals := by
  have h1 := hR.1
  have h2 := hR.2.1
  have h3 := hM'.2.2.2.2.2
  omega
theorem rest_room {m : MethodId} {pc : Nat} {ls : Array Slot} {st0 : List Value} {g : Nat → Nat} {rest : List AV} (h : (rest.map cat).sum ≤ 8) : 2 * (F0 m pc ls st0).monitorRoom + ((rest.map (rv g)).map fun v => v.category).sum ≤ 8 := by
  refine lv_room ?_
  rw [List.map_map, show ((fun v : Value => v.category) ∘ rv g) = cat from funext (cat_rv g)]
  exact h
theorem ok_app {a b : List AV} (h : ∀ v ∈ a ++ b, okv v) : (∀ v ∈ a, okv v) ∧ ∀ v ∈ b, okv v := ⟨fun v hv => h v (List.mem_append_left _ hv), fun v hv => h v (List.mem_append_right _ hv)⟩
def nPar (M : MI) (n : Nat) : Prop := (parseMethodDescriptor M.1.desc).map (fun d => d.parameters.length) = some n
/-- invokestatic: the callee's end is Q1, and from there on it goes -/
theorem s_callS {M M' : MI} {pc : Nat} {lv : List (Nat × AV)} {st rest as : List AV} {h : Hp} {Q Q1 : Option AV → Hp → Prop} {idx : Nat} (hd : decode M.2.1 pc = .ok (.invokestatic idx, 3)) (hM' : MOk M') (hlk : Cond.methodLink M.2.2.2.2.1 idx M'.1 ∈ gtbl) (hstt : Cond.static M'.1 ∈ gtbl) (hnp : nPar M' as.length) (hlv : M'.2.2.2.2.2 + 1 ≤ M.2.2.2.2.2) (hst : st = as.reverse ++ rest) (hca : ∀ v ∈ as, cat v = 1) (hlen : as.length ≤ M'.2.2.1) (hrm : (rest.map cat).sum ≤ 8)
    (k1 : Go M' 0 (lvA 0 as) [] h Q1) (k : ∀ r h1, Q1 r h1 → Go M (pc + 3) lv (r.toList ++ rest) h1 Q) : Go M pc lv st h Q := by
  obtain ⟨r1, h1, q1, e1, e2, S1⟩ := k1
  obtain ⟨r, h', q, e3, e4, S⟩ := k r1 h1 q1
  refine ⟨r, h', q, Nat.le_trans e1 e3, Nat.le_trans e2 e4, ?_⟩
  intro base b D cA p l e R s m args below meth c H locs N0 S0 ls Qf C oh rl hn hss hRm hl ol os hlo hf
  subst hst
  obtain ⟨oa, orst⟩ := ok_app os
  have oa' : ∀ v ∈ as, okv v := fun v hv => oa v (List.mem_reverse.mpr hv)
  have hMet := met_of hM' hca oa' hlen e1 e2 S1 (base := base) (b := b) (D := D) (cA := cA) C.2.2.2.2.2.2.2.2.2 l
  have r3 := hRm.2.2.1
  have r4 := hRm.2.2.2
  refine call_on (a1 := (as.map (rv (ga base b))).toArray) S e1 e2 C hn hss hRm hl ol orst hlo hf ?_
  refine va_runS (As := as.map (rv (ga base b))) (Ts := gtbl) (own := M.2.2.2.2.1) (index := idx) (n := as.length) (ws := wsM M') (bytes := M'.2.1) (maxL := M'.2.2.1) (ret := M'.2.2.2.1) ⟨C.1, C.2.1, C.2.2.1, C.2.2.2.1, C.2.2.2.2.1⟩ hMet ⟨callB_of as.length C.2.2.2.2.1 (wsM_good hM') rfl rfl rfl (C.2.2.2.2.1 _ hM'.2.1) (C.2.2.2.2.1 _ hlk) ⟨hM'.2.2.2.1.1, hM'.2.2.2.1.2, hnp⟩ (room_call hRm hM' hlv), C.2.2.2.2.1 _ hstt⟩ ⟨Pc_blind, fun U hU hW => ⟨rfl, oh, by rw [hU]; exact rl.moved hW.alike, C.2.2.2.2.2.2.2.2.1.moved hW⟩⟩ rfl (by simp) hl.1 (by show (as.reverse ++ rest).map (rv (ga base b)) = _; simp) (rest_room hrm) hd ⟨by omega, by omega⟩
/-- invokevirtual on an object of a known class -/
theorem s_callV {M M' : MI} {pc : Nat} {lv : List (Nat × AV)} {st rest as : List AV} {h : Hp} {Q Q1 : Option AV → Hp → Prop} {idx a ci : Nat} {r0 : vw_C} (hd : decode M.2.1 pc = .ok (.invokevirtual idx, 3)) (hM' : MOk M') (hlk : Cond.methodLink M.2.2.2.2.1 idx M'.1 ∈ gtbl) (hinst : Cond.instanceMethod M'.1 ∈ gtbl) (hsel : Cond.selects M'.1.cls M'.1 M'.1 ∈ gtbl) (hnp : nPar M' as.length) (hlv : M'.2.2.2.2.2 + 1 ≤ M.2.2.2.2.2) (hc : vwCl[ci]? = some r0) (hcn : r0.1 = M'.1.cls) (hst : st = as.reverse ++ .inr (.inr a) :: rest) (hca : ∀ v ∈ as, cat v = 1) (hlen : as.length + 1 ≤ M'.2.2.1) (hrm : (rest.map cat).sum ≤ 8) (hk : hK h a = ci)
    (k1 : Go M' 0 (lvA 0 (.inr (.inr a) :: as)) [] h Q1) (k : ∀ r h1, Q1 r h1 → Go M (pc + 3) lv (r.toList ++ rest) h1 Q) : Go M pc lv st h Q := by
  obtain ⟨r1, h1, q1, e1, e2, S1⟩ := k1
  obtain ⟨r, h', q, e3, e4, S⟩ := k r1 h1 q1
  refine ⟨r, h', q, Nat.le_trans e1 e3, Nat.le_trans e2 e4, ?_⟩
  intro base b D cA p l e R s m args below meth c H locs N0 S0 ls Qf C oh rl hn hss hRm hl ol os hlo hf
  subst hst
  subst hk
  have hci := cls_lt hc
  obtain ⟨ha2, haN⟩ := okH_lt oh rfl (by omega : hK h a < 18)
  obtain ⟨oa, orst0⟩ := ok_app os
  have orst := ok_tl orst0
  have oa' : ∀ v ∈ as, okv v := fun v hv => oa v (List.mem_reverse.mpr hv)
  have hMet := met_of hM' (as := .inr (.inr a) :: as) (fun v hv => by
    rcases List.mem_cons.mp hv with rfl | hv
    · rfl
    · exact hca v hv) (ok_cons trivial oa') hlen e1 e2 S1 (base := base) (b := b) (D := D) (cA := cA) C.2.2.2.2.2.2.2.2.2 l
  have r3 := hRm.2.2.1
  have r4 := hRm.2.2.2
  obtain ⟨cell, g1, g2, g3, -⟩ := (rl.2.1 a ha2 haN).1 _ hc
  have hcls := (C.2.2.2.2.2.2.2.2.1.1.1 _ _ hc).2.1
  rw [hcn] at hcls
  have erf : rv (ga base b) (.inr (.inr a)) = .ref (ga base b a) := rv_ref (by omega)
  refine call_on (a1 := (Value.ref (ga base b a) :: as.map (rv (ga base b))).toArray) S e1 e2 C hn hss hRm hl ol orst hlo hf ?_
  refine va_runV (b := ga base b a) (C := M'.1.cls) (As := as.map (rv (ga base b))) (Ts := gtbl) (own := M.2.2.2.2.1) (index := idx) (n := as.length) (ws := wsM M') (bytes := M'.2.1) (maxL := M'.2.2.1) (ret := M'.2.2.2.1) ⟨C.1, C.2.1, C.2.2.1, C.2.2.2.1, C.2.2.2.2.1⟩ hMet ⟨callB_of as.length C.2.2.2.2.1 (wsM_good hM') rfl rfl rfl (C.2.2.2.2.1 _ hM'.2.1) (C.2.2.2.2.1 _ hlk) ⟨hM'.2.2.2.1.1, hM'.2.2.2.1.2, hnp⟩ (room_call hRm hM' hlv), C.2.2.2.2.1 _ hinst, C.2.2.2.2.1 _ hsel⟩ ⟨Pc_blind, ⟨cell, g1, by rw [g3]; rfl, by rw [g2]; exact hcls⟩, fun U hU hW => ⟨by rw [List.map_cons, erf], oh, by rw [hU]; exact rl.moved hW.alike, C.2.2.2.2.2.2.2.2.1.moved hW⟩⟩ rfl (by simp) hl.1 (by show (as.reverse ++ .inr (.inr a) :: rest).map (rv (ga base b)) = _; simp [erf]) (rest_room hrm) hd ⟨by omega, by omega⟩
/-- invokespecial of a constructor, plain or of a nest mate -/
theorem s_callI {M M' : MI} {pc : Nat} {lv : List (Nat × AV)} {st rest as : List AV} {h : Hp} {Q Q1 : Option AV → Hp → Prop} {idx a : Nat} (hd : decode M.2.1 pc = .ok (.invokespecial idx, 3)) (hM' : MOk M') (hlk : Cond.methodLink M.2.2.2.2.1 idx M'.1 ∈ gtbl ∨ (M.2.2.2.2.1, idx, M'.1) ∈ nestW) (hinst : Cond.instanceMethod M'.1 ∈ gtbl) (hyn : M'.1.name = "<init>") (hret : M'.2.2.2.1 = none) (hnp : nPar M' as.length) (hlv : M'.2.2.2.2.2 + 1 ≤ M.2.2.2.2.2) (hst : st = as.reverse ++ .inr (.inr a) :: rest) (hca : ∀ v ∈ as, cat v = 1) (hlen : as.length + 1 ≤ M'.2.2.1) (hrm : (rest.map cat).sum ≤ 8) (hk : hK h a < 12)
    (k1 : Go M' 0 (lvA 0 (.inr (.inr a) :: as)) [] h Q1) (k : ∀ r h1, Q1 r h1 → Go M (pc + 3) lv (r.toList ++ rest) h1 Q) : Go M pc lv st h Q := by
  obtain ⟨r1, h1, q1, e1, e2, S1⟩ := k1
  obtain ⟨r, h', q, e3, e4, S⟩ := k r1 h1 q1
  refine ⟨r, h', q, Nat.le_trans e1 e3, Nat.le_trans e2 e4, ?_⟩
  intro base b D cA p l e R s m args below meth c H locs N0 S0 ls Qf C oh rl hn hss hRm hl ol os hlo hf
  subst hst
  obtain ⟨ha2, haN⟩ := okH_lt oh rfl (by omega : hK h a < 18)
  obtain ⟨oa, orst0⟩ := ok_app os
  have orst := ok_tl orst0
  have oa' : ∀ v ∈ as, okv v := fun v hv => oa v (List.mem_reverse.mpr hv)
  have hMet := met_of hM' (as := .inr (.inr a) :: as) (fun v hv => by
    rcases List.mem_cons.mp hv with rfl | hv
    · rfl
    · exact hca v hv) (ok_cons trivial oa') hlen e1 e2 S1 (base := base) (b := b) (D := D) (cA := cA) C.2.2.2.2.2.2.2.2.2 l
  have r3 := hRm.2.2.1
  have r4 := hRm.2.2.2
  have erf : rv (ga base b) (.inr (.inr a)) = .ref (ga base b a) := rv_ref (by omega)
  have hws : wsM M' = Cond.code M'.1 M'.2.1 M'.2.2.1 none :: gtbl := by unfold wsM; rw [hret]
  refine call_on (a1 := (Value.ref (ga base b a) :: as.map (rv (ga base b))).toArray) S e1 e2 C hn hss hRm hl ol orst hlo hf ?_
  rcases hlk with hlk | hlk
  · exact va_runI (b := ga base b a) (As := as.map (rv (ga base b))) (Ts := gtbl) (own := M.2.2.2.2.1) (index := idx) (n := as.length) (ws := wsM M') (bytes := M'.2.1) (maxL := M'.2.2.1) ⟨C.1, C.2.1, C.2.2.1, C.2.2.2.1, C.2.2.2.2.1⟩ hMet ⟨callB_of as.length C.2.2.2.2.1 (wsM_good hM') hws rfl rfl (C.2.2.2.2.1 _ hM'.2.1) (C.2.2.2.2.1 _ hlk) ⟨hM'.2.2.2.1.1, hM'.2.2.2.1.2, hnp⟩ (room_call hRm hM' hlv), hyn, C.2.2.2.2.1 _ hinst⟩ ⟨Pc_blind, fun U hU hW => ⟨by rw [List.map_cons, erf], oh, by rw [hU]; exact rl.moved hW.alike, C.2.2.2.2.2.2.2.2.1.moved hW⟩⟩ rfl (by simp) hl.1 (by show (as.reverse ++ .inr (.inr a) :: rest).map (rv (ga base b)) = _; simp [erf]) (rest_room hrm) hd ⟨by omega, by omega⟩
  · exact va_runIN (b := ga base b a) (host := RX11) (As := as.map (rv (ga base b))) (Ts := gtbl) (own := M.2.2.2.2.1) (index := idx) (n := as.length) (ws := wsM M') (bytes := M'.2.1) (maxL := M'.2.2.1) ⟨C.1, C.2.1, C.2.2.1, C.2.2.2.1, C.2.2.2.2.1⟩ hMet ⟨va_cnB as.length C.2.2.2.2.1 (wsM_good hM') hws rfl rfl (C.2.2.2.2.2.2.2.2.1.2.2.2 _ hlk) (C.2.2.2.2.1 _ hM'.2.1) ⟨hM'.2.2.2.1.1, hM'.2.2.2.1.2, hnp⟩ (room_call hRm hM' hlv), hyn, C.2.2.2.2.1 _ hinst⟩ ⟨Pc_blind, fun U hU hW => ⟨by rw [List.map_cons, erf], oh, by rw [hU]; exact rl.moved hW.alike, C.2.2.2.2.2.2.2.2.1.moved hW⟩⟩ rfl (by simp) hl.1 (by show (as.reverse ++ .inr (.inr a) :: rest).map (rv (ga base b)) = _; simp [erf]) (rest_room hrm) hd ⟨by omega, by omega⟩
theorem s_objInit {M : MI} {pc : Nat} {lv : List (Nat × AV)} {st : List AV} {h : Hp} {Q : Option AV → Hp → Prop} {a idx : Nat} (hd : decode M.2.1 pc = .ok (.invokespecial idx, 3)) (hlk : Cond.methodLink M.2.2.2.2.1 idx Lib.objectInit ∈ gtbl) (hlv : 1 ≤ M.2.2.2.2.2) (hst : st = []) (hk : hK h a < 12) (k : Go M (pc + 3) lv st h Q) : Go M pc lv (.inr (.inr a) :: st) h Q := by
  refine Go.of k fun r h' S => ?_
  intro base b D cA p l e R s m args below meth c H locs N0 S0 ls Qf C oh rl hn hss hRm hl ol os hlo hf
  subst hst
  obtain ⟨ha2, haN⟩ := okH_lt oh rfl (by omega : hK h a < 18)
  have r1 := hRm.1
  have r2 := hRm.2.1
  rw [List.map_cons, rv_ref (by omega : a ≠ 0)]
  have hoi : Cond.instanceMethod Lib.objectInit ∈ gtbl := by decide +kernel
  have hoc : Cond.code Lib.objectInit ⟨#[0xb1]⟩ 1 none ∈ gtbl := by decide +kernel
  exact W.objInit C.1 C.2.1 C.2.2.2.1 (C.2.2.2.2.1 _ hlk) (C.2.2.2.2.1 _ hoi) (C.2.2.2.2.1 _ hoc) rfl (by rw [C.2.2.1]; exact hl.1) rfl hd (by omega) (by show 2 * 0 + 0 + 12 ≤ _; omega) (S base b D cA p l e R s m args below meth c H locs N0 S0 ls Qf C oh rl hn hss hRm hl ol (ok_tl os) hlo hf)
