/-! ENGINE, part 4: a row an instruction, over Go: fields, arrays, new ones -/
theorem Go.of2 {M : MI} {pc pc' : Nat} {lv lv' : List (Nat × AV)} {st st' : List AV} {h h1 : Hp} {Q : Option AV → Hp → Prop} (k : Go M pc' lv' st' h1 Q) (e1 : hN h ≤ hN h1) (e2 : hS h ≤ hS h1) (f : ∀ r h', hN h1 ≤ hN h' → hS h1 ≤ hS h' → Sim M pc' lv' st' h1 r h' → Sim M pc lv st h r h') : Go M pc lv st h Q := by
  obtain ⟨r, h', q, a, b, s⟩ := k
  exact ⟨r, h', q, Nat.le_trans e1 a, Nat.le_trans e2 b, f r h' a b s⟩
theorem locs_snoc {base : Nat} {locs : List Loc} {q : Loc} (h : ∀ x ∈ locs, base ≤ x.base) (hq : base ≤ q.base) : ∀ x ∈ locs ++ [q], base ≤ x.base := by
  intro x hx
  rcases List.mem_append.mp hx with z | z
  · exact h x z
  · rw [List.mem_singleton.mp z]; exact hq
theorem toNat_cast {j : Int} (h : 0 ≤ j) : ((j.toNat : Nat) : Int) = j := Int.toNat_of_nonneg h
theorem vp_in_z {j : Int} {n : Int} (h0 : 0 ≤ j) (h1 : j < n) (hn : n ≤ 2147483647) : ¬ (Int32.ofInt j < 0 ∨ n.toNat ≤ (Int32.ofInt j).toNatClampNeg) := by
  rw [i32_clamp h0 (by omega)]
  rintro (q | q)
  · have := (i32_lt (show okv (.inl j) from ⟨by omega, by omega⟩) (show okv (.inl 0) from ⟨by omega, by omega⟩)).mp q
    omega
  · omega

theorem s_getI {M : MI} {pc : Nat} {lv : List (Nat × AV)} {st : List AV} {h : Hp} {Q : Option AV → Hp → Prop} {a ci j idx : Nat} {jz : Int} {r0 : vw_C} (hd : decode M.2.1 pc = .ok (.getfield idx, 3)) (hc : vwCl[ci]? = some r0) (hj : j < r0.2.2) (hz : jz = (j : Int)) (hlk : Cond.fieldLink M.2.2.2.2.1 idx (r0.2.1 j).1 (r0.2.1 j).2.1 (r0.2.1 j).2.2.1 ∈ gtbl) (hi : isRf ci j = false) (hk : hK h a = ci) (k : Go M (pc + 3) lv (.inl (hI h a jz) :: st) h Q) : Go M pc lv (.inr (.inr a) :: st) h Q := by
  refine Go.of k fun r h' S => ?_
  intro base b D cA p l e R s m args below meth c H locs N0 S0 ls Qf C oh rl hn hss hRm hl ol os hlo hf
  subst hk
  subst hz
  have hci := cls_lt hc
  obtain ⟨ha2, haN⟩ := okH_lt oh rfl (by omega : hK h a < 18)
  obtain ⟨q1, -, -, -, -⟩ := cls_ok _ _ hc
  obtain ⟨hSl, hfc, kC, hkC, hkind⟩ := C.2.2.2.2.2.2.2.2.1.1.1 _ _ hc
  obtain ⟨cell, g1, g2, g3, g4⟩ := (rl.2.1 a ha2 haN).1 _ hc
  obtain ⟨cf, kf, fi, f, hif, hsl⟩ := hSl j hj
  rw [List.map_cons, rv_ref (by omega : a ≠ 0)]
  refine W.getf C.1 C.2.1 C.2.2.2.1 (C.2.2.2.2.1 _ hlk) hif (u_facts hfc hkC (u_lays C.2.2.2.2.1 q1 hj) hif).1 g1 (by rw [g3]; exact fun z => by cases z) (v := rv (ga base b) (.inl (hI h a (j : Int)))) ?_ rfl rfl hd (S base b D cA p l e R s m args below meth c H locs N0 S0 ls Qf C oh rl hn hss hRm hl ol (ok_cons (oh.2.2.2.2.1 _ _) (ok_tl os)) hlo hf)
  rw [hsl, g4 j hj]
  unfold fv
  rw [if_neg (by rw [hi]; decide)]
  first | done | rfl
theorem s_getR {M : MI} {pc : Nat} {lv : List (Nat × AV)} {st : List AV} {h : Hp} {Q : Option AV → Hp → Prop} {a ci j idx : Nat} {jz : Int} {r0 : vw_C} (hd : decode M.2.1 pc = .ok (.getfield idx, 3)) (hc : vwCl[ci]? = some r0) (hj : j < r0.2.2) (hz : jz = (j : Int)) (hlk : Cond.fieldLink M.2.2.2.2.1 idx (r0.2.1 j).1 (r0.2.1 j).2.1 (r0.2.1 j).2.2.1 ∈ gtbl) (hi : isRf ci j = true) (hk : hK h a = ci) (k : Go M (pc + 3) lv (.inr (.inr (hR h a jz)) :: st) h Q) : Go M pc lv (.inr (.inr a) :: st) h Q := by
  refine Go.of k fun r h' S => ?_
  intro base b D cA p l e R s m args below meth c H locs N0 S0 ls Qf C oh rl hn hss hRm hl ol os hlo hf
  subst hk
  subst hz
  have hci := cls_lt hc
  obtain ⟨ha2, haN⟩ := okH_lt oh rfl (by omega : hK h a < 18)
  obtain ⟨q1, -, -, -, -⟩ := cls_ok _ _ hc
  obtain ⟨hSl, hfc, kC, hkC, hkind⟩ := C.2.2.2.2.2.2.2.2.1.1.1 _ _ hc
  obtain ⟨cell, g1, g2, g3, g4⟩ := (rl.2.1 a ha2 haN).1 _ hc
  obtain ⟨cf, kf, fi, f, hif, hsl⟩ := hSl j hj
  rw [List.map_cons, rv_ref (by omega : a ≠ 0)]
  refine W.getf C.1 C.2.1 C.2.2.2.1 (C.2.2.2.2.1 _ hlk) hif (u_facts hfc hkC (u_lays C.2.2.2.2.1 q1 hj) hif).1 g1 (by rw [g3]; exact fun z => by cases z) (v := rv (ga base b) (.inr (.inr (hR h a (j : Int))))) ?_ rfl rfl hd (S base b D cA p l e R s m args below meth c H locs N0 S0 ls Qf C oh rl hn hss hRm hl ol (ok_cons trivial (ok_tl os)) hlo hf)
  rw [hsl, g4 j hj]
  unfold fv
  rw [if_pos hi]
  first | done | rfl
theorem s_putI {M : MI} {pc : Nat} {lv : List (Nat × AV)} {st : List AV} {h : Hp} {Q : Option AV → Hp → Prop} {v : Int} {a ci j idx : Nat} {jz : Int} {r0 : vw_C} (hd : decode M.2.1 pc = .ok (.putfield idx, 3)) (hc : vwCl[ci]? = some r0) (hj : j < r0.2.2) (hz : jz = (j : Int)) (hlk : Cond.fieldLink M.2.2.2.2.1 idx (r0.2.1 j).1 (r0.2.1 j).2.1 (r0.2.1 j).2.2.1 ∈ gtbl) (hi : isRf ci j = false) (hfin : (r0.2.1 j).2.2.2 = false) (hnv : narrow (tyOf ci j) (.int (Int32.ofInt v)) = .int (Int32.ofInt v)) (hft : fits (tyOf ci j) (.int (Int32.ofInt v)) = true) (hk : hK h a = ci) (k : Go M (pc + 3) lv st (wI h a jz v) Q) : Go M pc lv (.inl v :: .inr (.inr a) :: st) h Q := by
  refine Go.of2 k (Nat.le_refl _) (Nat.le_refl _) fun r h' hle1 hle2 S => ?_
  intro base b D cA p l e R s m args below meth c H locs N0 S0 ls Qf C oh rl hn hss hRm hl ol os hlo hf
  subst hk
  subst hz
  have hci := cls_lt hc
  obtain ⟨ha2, haN⟩ := okH_lt oh rfl (by omega : hK h a < 18)
  obtain ⟨q1, q2, q3, -, -⟩ := cls_ok _ _ hc
  have hap := va_apart (own := M.2.2.2.2.1) C.2.2.2.2.1 q1 (tyOf (hK h a)) q2 q3 C.2.2.2.2.2.2.2.2.1.1 hc
  obtain ⟨hSl, hfc, kC, hkC, hkind⟩ := C.2.2.2.2.2.2.2.2.1.1.1 _ _ hc
  obtain ⟨cell, g1, g2, g3, g4⟩ := (rl.2.1 a ha2 haN).1 _ hc
  obtain ⟨cf, kf, fi, f, hif, hsl⟩ := hSl j hj
  have hlay := C.2.2.2.2.1 _ (q1 _ (u_in_lay hj))
  unfold u_lay at hlay
  have hst := (u_facts hfc hkC (u_lays C.2.2.2.2.1 q1 hj) hif).1
  rw [if_neg (by rw [hfin]; decide)] at hlay
  have h6 := u_store hfc hkC hkind hlay hif (q2 j hj) hnv hft
  rw [List.map_cons, List.map_cons, rv_ref (by omega : a ≠ 0), show rv (ga base b) (.inl v) = .int (Int32.ofInt v) from rfl]
  refine W.putK C.1 C.2.1 (f := f) ⟨C.2.2.2.1, C.2.2.2.2.1 _ hlk, ⟨_, _, _, hif⟩, hst⟩ (by rw [g2]; exact h6) g1 g3 (by rw [hsl]; exact k2_hasslot (g4 j hj)) rfl rfl hd fun H1 e1 e2 e3 => ?_
  rw [hsl] at e1 ⊢
  refine S base b D cA p l e R s m args below meth c H1 _ N0 S0 ls Qf C (okH_wI oh (ok_hd os) (fun q => by omega)) (rl.upd (a := a) C.2.2.2.2.2.2.2.2.2 ha2 rfl (fun _ => rfl) (fun _ => rfl) (fun k j hk => by simp [hI, wI, hk]) (fun k j hk => rfl) e2 e3 ?_) hn hss hRm hl ol (ok_tl (ok_tl os)) (locs_snoc hlo (ga_lo ha2)) hf
  refine ⟨fun r hr => ?_, fun z1 z2 => absurd z1 (by show ¬ 12 ≤ hK h a; omega), fun z1 z2 => absurd z1 (by show ¬ 16 ≤ hK h a; omega)⟩
  have er : r = r0 := Option.some.inj (hr.symm.trans hc)
  subst er
  refine t_OB.to (V := updV (fv (ga base b) h a) j (.int (Int32.ofInt v))) ⟨_, e1, g2, g3, t_set g4 hap hj _⟩ (fun i hi2 => ?_)
  unfold updV fv
  by_cases hij : i = j
  · subst hij
    rw [if_pos rfl]
    show _ = if isRf (hK h a) i = true then _ else _
    rw [if_neg (by rw [hi]; decide)]
    simp [hI, wI]
  · rw [if_neg hij]
    have hij2 : ¬ ((i : Int) = (j : Int)) := by omega
    show _ = if isRf (hK h a) i = true then rr _ (hR (wI h a j v) a i) else .int (Int32.ofInt (hI (wI h a j v) a i))
    simp [hI, hR, wI, hij2]
theorem s_putR {M : MI} {pc : Nat} {lv : List (Nat × AV)} {st : List AV} {h : Hp} {Q : Option AV → Hp → Prop} {v : Nat} {a ci j idx : Nat} {jz : Int} {r0 : vw_C} (hd : decode M.2.1 pc = .ok (.putfield idx, 3)) (hc : vwCl[ci]? = some r0) (hj : j < r0.2.2) (hz : jz = (j : Int)) (hlk : Cond.fieldLink M.2.2.2.2.1 idx (r0.2.1 j).1 (r0.2.1 j).2.1 (r0.2.1 j).2.2.1 ∈ gtbl) (hi : isRf ci j = true) (hfin : (r0.2.1 j).2.2.2 = false) (hk : hK h a = ci) (k : Go M (pc + 3) lv st (wR h a jz v) Q) : Go M pc lv (.inr (.inr v) :: .inr (.inr a) :: st) h Q := by
  refine Go.of2 k (Nat.le_refl _) (Nat.le_refl _) fun r h' hle1 hle2 S => ?_
  intro base b D cA p l e R s m args below meth c H locs N0 S0 ls Qf C oh rl hn hss hRm hl ol os hlo hf
  subst hk
  subst hz
  have hci := cls_lt hc
  obtain ⟨ha2, haN⟩ := okH_lt oh rfl (by omega : hK h a < 18)
  obtain ⟨q1, q2, q3, -, -⟩ := cls_ok _ _ hc
  have hap := va_apart (own := M.2.2.2.2.1) C.2.2.2.2.1 q1 (tyOf (hK h a)) q2 q3 C.2.2.2.2.2.2.2.2.1.1 hc
  obtain ⟨hSl, hfc, kC, hkC, hkind⟩ := C.2.2.2.2.2.2.2.2.1.1.1 _ _ hc
  obtain ⟨cell, g1, g2, g3, g4⟩ := (rl.2.1 a ha2 haN).1 _ hc
  obtain ⟨cf, kf, fi, f, hif, hsl⟩ := hSl j hj
  have hlay := C.2.2.2.2.1 _ (q1 _ (u_in_lay hj))
  unfold u_lay at hlay
  have hty : isRT (tyOf (hK h a) j) = true := hi
  have hnv : narrow (tyOf (hK h a) j) (rr (ga base b) v) = rr (ga base b) v := by
    revert hty
    cases tyOf (hK h a) j <;> intro hty <;> first | (exact absurd hty (by decide)) | (unfold rr; split <;> rfl)
  have hft : fits (tyOf (hK h a) j) (rr (ga base b) v) = true := by
    revert hty
    cases tyOf (hK h a) j <;> intro hty <;> first | (exact absurd hty (by decide)) | (unfold rr; split <;> rfl)
  have hst := (u_facts hfc hkC (u_lays C.2.2.2.2.1 q1 hj) hif).1
  rw [if_neg (by rw [hfin]; decide)] at hlay
  have h6 := u_store hfc hkC hkind hlay hif (q2 j hj) hnv hft
  rw [List.map_cons, List.map_cons, rv_ref (by omega : a ≠ 0), show rv (ga base b) (.inr (.inr v)) = rr (ga base b) v from rfl]
  refine W.putK C.1 C.2.1 (f := f) ⟨C.2.2.2.1, C.2.2.2.2.1 _ hlk, ⟨_, _, _, hif⟩, hst⟩ (by rw [g2]; exact h6) g1 g3 (by rw [hsl]; exact k2_hasslot (g4 j hj)) rfl rfl hd fun H1 e1 e2 e3 => ?_
  rw [hsl] at e1 ⊢
  refine S base b D cA p l e R s m args below meth c H1 _ N0 S0 ls Qf C (okH_wR oh) (rl.upd (a := a) C.2.2.2.2.2.2.2.2.2 ha2 rfl (fun _ => rfl) (fun _ => rfl) (fun k j hk => rfl) (fun k j hk => by simp [hR, wR, hk]) e2 e3 ?_) hn hss hRm hl ol (ok_tl (ok_tl os)) (locs_snoc hlo (ga_lo ha2)) hf
  refine ⟨fun r hr => ?_, fun z1 z2 => absurd z1 (by show ¬ 12 ≤ hK h a; omega), fun z1 z2 => absurd z1 (by show ¬ 16 ≤ hK h a; omega)⟩
  have er : r = r0 := Option.some.inj (hr.symm.trans hc)
  subst er
  refine t_OB.to (V := updV (fv (ga base b) h a) j (rr (ga base b) v)) ⟨_, e1, g2, g3, t_set g4 hap hj _⟩ (fun i hi2 => ?_)
  unfold updV fv
  by_cases hij : i = j
  · subst hij
    rw [if_pos rfl]
    show _ = if isRf (hK h a) i = true then _ else _
    rw [if_pos hi]
    simp [hR, wR]
  · rw [if_neg hij]
    have hij2 : ¬ ((i : Int) = (j : Int)) := by omega
    show _ = if isRf (hK h a) i = true then rr _ (hR (wR h a j v) a i) else .int (Int32.ofInt (hI (wR h a j v) a i))
    simp [hI, hR, wR, hij2]
theorem s_putIF {M : MI} {pc : Nat} {lv : List (Nat × AV)} {st : List AV} {h : Hp} {Q : Option AV → Hp → Prop} {v : Int} {a ci j idx : Nat} {jz : Int} {r0 : vw_C} (hd : decode M.2.1 pc = .ok (.putfield idx, 3)) (hc : vwCl[ci]? = some r0) (hj : j < r0.2.2) (hz : jz = (j : Int)) (hlk : Cond.fieldLink M.2.2.2.2.1 idx (r0.2.1 j).1 (r0.2.1 j).2.1 (r0.2.1 j).2.2.1 ∈ gtbl) (hi : isRf ci j = false) (hfin : (r0.2.1 j).2.2.2 = true) (hini : M.1.name = "<init>") (hdecl : (r0.2.1 j).1 = M.2.2.2.2.1) (hnv : narrow (tyOf ci j) (.int (Int32.ofInt v)) = .int (Int32.ofInt v)) (hft : fits (tyOf ci j) (.int (Int32.ofInt v)) = true) (hk : hK h a = ci) (k : Go M (pc + 3) lv st (wI h a jz v) Q) : Go M pc lv (.inl v :: .inr (.inr a) :: st) h Q := by
  refine Go.of2 k (Nat.le_refl _) (Nat.le_refl _) fun r h' hle1 hle2 S => ?_
  intro base b D cA p l e R s m args below meth c H locs N0 S0 ls Qf C oh rl hn hss hRm hl ol os hlo hf
  subst hk
  subst hz
  have hci := cls_lt hc
  obtain ⟨ha2, haN⟩ := okH_lt oh rfl (by omega : hK h a < 18)
  obtain ⟨q1, q2, q3, -, -⟩ := cls_ok _ _ hc
  have hap := va_apart (own := M.2.2.2.2.1) C.2.2.2.2.1 q1 (tyOf (hK h a)) q2 q3 C.2.2.2.2.2.2.2.2.1.1 hc
  obtain ⟨hSl, hfc, kC, hkC, hkind⟩ := C.2.2.2.2.2.2.2.2.1.1.1 _ _ hc
  obtain ⟨cell, g1, g2, g3, g4⟩ := (rl.2.1 a ha2 haN).1 _ hc
  obtain ⟨cf, kf, fi, f, hif, hsl⟩ := hSl j hj
  have hlay := C.2.2.2.2.1 _ (q1 _ (u_in_lay hj))
  unfold u_lay at hlay
  have hst := (u_facts hfc hkC (u_lays C.2.2.2.2.1 q1 hj) hif).1
  rw [if_pos hfin] at hlay
  have hcf : m.cls = cf := by
    obtain ⟨_, _, c', _, _, _, -, -, hf', -, -, -, hown2, -⟩ := Cond.laysFinal_spec hlay
    have e1 : c' = cf := by have := hif.symm.trans hf'; simp at this; exact this.1.symm
    rw [hdecl] at hown2
    rw [← e1]; exact Option.some.inj (C.2.2.2.1.symm.trans hown2)
  have h6 := u_fits hfc hkC hkind (Or.inr hlay) hif (q2 j hj) hnv hft
  rw [List.map_cons, List.map_cons, rv_ref (by omega : a ≠ 0), show rv (ga base b) (.inl v) = .int (Int32.ofInt v) from rfl]
  refine W.putFinK C.1 C.2.1 C.2.2.2.1 (C.2.2.2.2.1 _ hlk) hif hst hcf (C.2.2.2.2.2.2.2.1 hini) (by rw [g2]; exact h6) g1 g3 (by rw [hsl]; exact k2_hasslot (g4 j hj)) rfl rfl hd fun H1 e1 e2 e3 => ?_
  rw [hsl] at e1 ⊢
  refine S base b D cA p l e R s m args below meth c H1 _ N0 S0 ls Qf C (okH_wI oh (ok_hd os) (fun q => by omega)) (rl.upd (a := a) C.2.2.2.2.2.2.2.2.2 ha2 rfl (fun _ => rfl) (fun _ => rfl) (fun k j hk => by simp [hI, wI, hk]) (fun k j hk => rfl) e2 e3 ?_) hn hss hRm hl ol (ok_tl (ok_tl os)) (locs_snoc hlo (ga_lo ha2)) hf
  refine ⟨fun r hr => ?_, fun z1 z2 => absurd z1 (by show ¬ 12 ≤ hK h a; omega), fun z1 z2 => absurd z1 (by show ¬ 16 ≤ hK h a; omega)⟩
  have er : r = r0 := Option.some.inj (hr.symm.trans hc)
  subst er
  refine t_OB.to (V := updV (fv (ga base b) h a) j (.int (Int32.ofInt v))) ⟨_, e1, g2, g3, t_set g4 hap hj _⟩ (fun i hi2 => ?_)
  unfold updV fv
  by_cases hij : i = j
  · subst hij
    rw [if_pos rfl]
    show _ = if isRf (hK h a) i = true then _ else _
    rw [if_neg (by rw [hi]; decide)]
    simp [hI, wI]
  · rw [if_neg hij]
    have hij2 : ¬ ((i : Int) = (j : Int)) := by omega
    show _ = if isRf (hK h a) i = true then rr _ (hR (wI h a j v) a i) else .int (Int32.ofInt (hI (wI h a j v) a i))
    simp [hI, hR, wI, hij2]
theorem s_putRF {M : MI} {pc : Nat} {lv : List (Nat × AV)} {st : List AV} {h : Hp} {Q : Option AV → Hp → Prop} {v : Nat} {a ci j idx : Nat} {jz : Int} {r0 : vw_C} (hd : decode M.2.1 pc = .ok (.putfield idx, 3)) (hc : vwCl[ci]? = some r0) (hj : j < r0.2.2) (hz : jz = (j : Int)) (hlk : Cond.fieldLink M.2.2.2.2.1 idx (r0.2.1 j).1 (r0.2.1 j).2.1 (r0.2.1 j).2.2.1 ∈ gtbl) (hi : isRf ci j = true) (hfin : (r0.2.1 j).2.2.2 = true) (hini : M.1.name = "<init>") (hdecl : (r0.2.1 j).1 = M.2.2.2.2.1) (hk : hK h a = ci) (k : Go M (pc + 3) lv st (wR h a jz v) Q) : Go M pc lv (.inr (.inr v) :: .inr (.inr a) :: st) h Q := by
  refine Go.of2 k (Nat.le_refl _) (Nat.le_refl _) fun r h' hle1 hle2 S => ?_
  intro base b D cA p l e R s m args below meth c H locs N0 S0 ls Qf C oh rl hn hss hRm hl ol os hlo hf
  subst hk
  subst hz
  have hci := cls_lt hc
  obtain ⟨ha2, haN⟩ := okH_lt oh rfl (by omega : hK h a < 18)
  obtain ⟨q1, q2, q3, -, -⟩ := cls_ok _ _ hc
  have hap := va_apart (own := M.2.2.2.2.1) C.2.2.2.2.1 q1 (tyOf (hK h a)) q2 q3 C.2.2.2.2.2.2.2.2.1.1 hc
  obtain ⟨hSl, hfc, kC, hkC, hkind⟩ := C.2.2.2.2.2.2.2.2.1.1.1 _ _ hc
  obtain ⟨cell, g1, g2, g3, g4⟩ := (rl.2.1 a ha2 haN).1 _ hc
  obtain ⟨cf, kf, fi, f, hif, hsl⟩ := hSl j hj
  have hlay := C.2.2.2.2.1 _ (q1 _ (u_in_lay hj))
  unfold u_lay at hlay
  have hty : isRT (tyOf (hK h a) j) = true := hi
  have hnv : narrow (tyOf (hK h a) j) (rr (ga base b) v) = rr (ga base b) v := by
    revert hty
    cases tyOf (hK h a) j <;> intro hty <;> first | (exact absurd hty (by decide)) | (unfold rr; split <;> rfl)
  have hft : fits (tyOf (hK h a) j) (rr (ga base b) v) = true := by
    revert hty
    cases tyOf (hK h a) j <;> intro hty <;> first | (exact absurd hty (by decide)) | (unfold rr; split <;> rfl)
  have hst := (u_facts hfc hkC (u_lays C.2.2.2.2.1 q1 hj) hif).1
  rw [if_pos hfin] at hlay
  have hcf : m.cls = cf := by
    obtain ⟨_, _, c', _, _, _, -, -, hf', -, -, -, hown2, -⟩ := Cond.laysFinal_spec hlay
    have e1 : c' = cf := by have := hif.symm.trans hf'; simp at this; exact this.1.symm
    rw [hdecl] at hown2
    rw [← e1]; exact Option.some.inj (C.2.2.2.1.symm.trans hown2)
  have h6 := u_fits hfc hkC hkind (Or.inr hlay) hif (q2 j hj) hnv hft
  rw [List.map_cons, List.map_cons, rv_ref (by omega : a ≠ 0), show rv (ga base b) (.inr (.inr v)) = rr (ga base b) v from rfl]
  refine W.putFinK C.1 C.2.1 C.2.2.2.1 (C.2.2.2.2.1 _ hlk) hif hst hcf (C.2.2.2.2.2.2.2.1 hini) (by rw [g2]; exact h6) g1 g3 (by rw [hsl]; exact k2_hasslot (g4 j hj)) rfl rfl hd fun H1 e1 e2 e3 => ?_
  rw [hsl] at e1 ⊢
  refine S base b D cA p l e R s m args below meth c H1 _ N0 S0 ls Qf C (okH_wR oh) (rl.upd (a := a) C.2.2.2.2.2.2.2.2.2 ha2 rfl (fun _ => rfl) (fun _ => rfl) (fun k j hk => rfl) (fun k j hk => by simp [hR, wR, hk]) e2 e3 ?_) hn hss hRm hl ol (ok_tl (ok_tl os)) (locs_snoc hlo (ga_lo ha2)) hf
  refine ⟨fun r hr => ?_, fun z1 z2 => absurd z1 (by show ¬ 12 ≤ hK h a; omega), fun z1 z2 => absurd z1 (by show ¬ 16 ≤ hK h a; omega)⟩
  have er : r = r0 := Option.some.inj (hr.symm.trans hc)
  subst er
  refine t_OB.to (V := updV (fv (ga base b) h a) j (rr (ga base b) v)) ⟨_, e1, g2, g3, t_set g4 hap hj _⟩ (fun i hi2 => ?_)
  unfold updV fv
  by_cases hij : i = j
  · subst hij
    rw [if_pos rfl]
    show _ = if isRf (hK h a) i = true then _ else _
    rw [if_pos hi]
    simp [hR, wR]
  · rw [if_neg hij]
    have hij2 : ¬ ((i : Int) = (j : Int)) := by omega
    show _ = if isRf (hK h a) i = true then rr _ (hR (wR h a j v) a i) else .int (Int32.ofInt (hI (wR h a j v) a i))
    simp [hI, hR, wR, hij2]
theorem s_iald {M : MI} {pc : Nat} {lv : List (Nat × AV)} {st : List AV} {h : Hp} {Q : Option AV → Hp → Prop} {a : Nat} {j : Int} (hd : decode M.2.1 pc = .ok (.iaload, 1)) (hk : hK h a = 12) (h0 : 0 ≤ j) (h1 : j < hL h a) (k : Go M (pc + 1) lv (.inl (hI h a j) :: st) h Q) : Go M pc lv (.inl j :: .inr (.inr a) :: st) h Q := by
  refine Go.of k fun r h' S => ?_
  intro base b D cA p l e R s m args below meth c H locs N0 S0 ls Qf C oh rl hn hss hRm hl ol os hlo hf
  obtain ⟨ha2, haN⟩ := okH_lt oh hk (by omega)
  have hcell := (rl.2.1 a ha2 haN).2.1 (by omega) (by omega)
  rw [hk] at hcell
  have hlen := (oh.2.2.2.2.2.1 a).2
  rw [List.map_cons, List.map_cons, rv_ref (by omega : a ≠ 0)]
  refine W.iald C.1 C.2.1 hcell ((C.2.2.2.2.2.2.2.2.1.arr 0 rfl).1 _ _) (fun q => by cases q) (by rw [arrV_size]; exact vp_in_z h0 h1 hlen) (v := rv (ga base b) (.inl (hI h a j))) ?_ rfl rfl hd (S base b D cA p l e R s m args below meth c H locs N0 S0 ls Qf C oh rl hn hss hRm hl ol (ok_cons (oh.2.2.2.2.1 _ _) (ok_tl (ok_tl os))) hlo hf)
  rw [i32_clamp h0 (by omega), arrV_read _ _ (by omega), toNat_cast h0]
  rfl
theorem s_bald {M : MI} {pc : Nat} {lv : List (Nat × AV)} {st : List AV} {h : Hp} {Q : Option AV → Hp → Prop} {a : Nat} {j : Int} (hd : decode M.2.1 pc = .ok (.baload, 1)) (hk : hK h a = 13) (h0 : 0 ≤ j) (h1 : j < hL h a) (k : Go M (pc + 1) lv (.inl (hI h a j) :: st) h Q) : Go M pc lv (.inl j :: .inr (.inr a) :: st) h Q := by
  refine Go.of k fun r h' S => ?_
  intro base b D cA p l e R s m args below meth c H locs N0 S0 ls Qf C oh rl hn hss hRm hl ol os hlo hf
  obtain ⟨ha2, haN⟩ := okH_lt oh hk (by omega)
  have hcell := (rl.2.1 a ha2 haN).2.1 (by omega) (by omega)
  rw [hk] at hcell
  have hlen := (oh.2.2.2.2.2.1 a).2
  rw [List.map_cons, List.map_cons, rv_ref (by omega : a ≠ 0)]
  refine W.bald C.1 C.2.1 hcell ((C.2.2.2.2.2.2.2.2.1.arr 1 rfl).1 _ _) (fun q => by cases q) (by rw [arrV_size]; exact vp_in_z h0 h1 hlen) (v := rv (ga base b) (.inl (hI h a j))) ?_ rfl rfl hd (S base b D cA p l e R s m args below meth c H locs N0 S0 ls Qf C oh rl hn hss hRm hl ol (ok_cons (oh.2.2.2.2.1 _ _) (ok_tl (ok_tl os))) hlo hf)
  rw [i32_clamp h0 (by omega), arrV_read _ _ (by omega), toNat_cast h0]
  rfl
theorem s_cald {M : MI} {pc : Nat} {lv : List (Nat × AV)} {st : List AV} {h : Hp} {Q : Option AV → Hp → Prop} {a : Nat} {j : Int} (hd : decode M.2.1 pc = .ok (.caload, 1)) (hk : hK h a = 14) (h0 : 0 ≤ j) (h1 : j < hL h a) (k : Go M (pc + 1) lv (.inl (hI h a j) :: st) h Q) : Go M pc lv (.inl j :: .inr (.inr a) :: st) h Q := by
  refine Go.of k fun r h' S => ?_
  intro base b D cA p l e R s m args below meth c H locs N0 S0 ls Qf C oh rl hn hss hRm hl ol os hlo hf
  obtain ⟨ha2, haN⟩ := okH_lt oh hk (by omega)
  have hcell := (rl.2.1 a ha2 haN).2.1 (by omega) (by omega)
  rw [hk] at hcell
  have hlen := (oh.2.2.2.2.2.1 a).2
  rw [List.map_cons, List.map_cons, rv_ref (by omega : a ≠ 0)]
  refine W.cald C.1 C.2.1 hcell ((C.2.2.2.2.2.2.2.2.1.arr 2 rfl).1 _ _) (fun q => by cases q) (by rw [arrV_size]; exact vp_in_z h0 h1 hlen) (v := rv (ga base b) (.inl (hI h a j))) ?_ rfl rfl hd (S base b D cA p l e R s m args below meth c H locs N0 S0 ls Qf C oh rl hn hss hRm hl ol (ok_cons (oh.2.2.2.2.1 _ _) (ok_tl (ok_tl os))) hlo hf)
  rw [i32_clamp h0 (by omega), arrV_read _ _ (by omega), toNat_cast h0]
  rfl
theorem s_zald {M : MI} {pc : Nat} {lv : List (Nat × AV)} {st : List AV} {h : Hp} {Q : Option AV → Hp → Prop} {a : Nat} {j : Int} (hd : decode M.2.1 pc = .ok (.baload, 1)) (hk : hK h a = 15) (h0 : 0 ≤ j) (h1 : j < hL h a) (k : Go M (pc + 1) lv (.inl (hI h a j) :: st) h Q) : Go M pc lv (.inl j :: .inr (.inr a) :: st) h Q := by
  refine Go.of k fun r h' S => ?_
  intro base b D cA p l e R s m args below meth c H locs N0 S0 ls Qf C oh rl hn hss hRm hl ol os hlo hf
  obtain ⟨ha2, haN⟩ := okH_lt oh hk (by omega)
  have hcell := (rl.2.1 a ha2 haN).2.1 (by omega) (by omega)
  rw [hk] at hcell
  have hlen := (oh.2.2.2.2.2.1 a).2
  rw [List.map_cons, List.map_cons, rv_ref (by omega : a ≠ 0)]
  refine W.zald C.1 C.2.1 hcell ((C.2.2.2.2.2.2.2.2.1.arr 3 rfl).1 _ _) (fun q => by cases q) (by rw [arrV_size]; exact vp_in_z h0 h1 hlen) (v := rv (ga base b) (.inl (hI h a j))) ?_ rfl rfl hd (S base b D cA p l e R s m args below meth c H locs N0 S0 ls Qf C oh rl hn hss hRm hl ol (ok_cons (oh.2.2.2.2.1 _ _) (ok_tl (ok_tl os))) hlo hf)
  rw [i32_clamp h0 (by omega), arrV_read _ _ (by omega), toNat_cast h0]
  rfl
theorem s_sld {M : MI} {pc : Nat} {lv : List (Nat × AV)} {st : List AV} {h : Hp} {Q : Option AV → Hp → Prop} {j : Int} (hd : decode M.2.1 pc = .ok (.iaload, 1)) (h0 : 0 ≤ j) (h1 : j < hL h 1) (k : Go M (pc + 1) lv (.inl (hI h 1 j) :: st) h Q) : Go M pc lv (.inl j :: .inr (.inr 1) :: st) h Q := by
  refine Go.of k fun r h' S => ?_
  intro base b D cA p l e R s m args below meth c H locs N0 S0 ls Qf C oh rl hn hss hRm hl ol os hlo hf
  obtain ⟨scr, x1, x2, x3, x4, x5⟩ := rl.2.2
  have hlen := (oh.2.2.2.2.2.1 1).2
  rw [List.map_cons, List.map_cons, rv_ref (by omega : (1 : Nat) ≠ 0), show ga base b 1 = b from if_pos rfl]
  refine W.iald C.1 C.2.1 x1 x2 x3 (by rw [x4]; exact vp_in_z h0 h1 hlen) (v := rv (ga base b) (.inl (hI h 1 j))) ?_ rfl rfl hd (S base b D cA p l e R s m args below meth c H locs N0 S0 ls Qf C oh rl hn hss hRm hl ol (ok_cons (oh.2.2.2.2.1 _ _) (ok_tl (ok_tl os))) hlo hf)
  rw [i32_clamp h0 (by omega), x5 _ (by omega)]
  show some (Value.int (Int32.ofInt (hI h 1 ((j.toNat : Nat) : Int)))) = _
  rw [toNat_cast h0]
  rfl
theorem ofNat_toNat {n : Int} (h : 0 ≤ n) : (n.toNat).toInt32 = Int32.ofInt n := by
  obtain ⟨k, rfl⟩ := Int.eq_ofNat_of_zero_le h
  show Int32.ofNat ((k : Int).toNat) = _
  rw [Int.toNat_natCast]
  exact Int32.ofInt_eq_ofNat.symm
theorem s_slen {M : MI} {pc : Nat} {lv : List (Nat × AV)} {st : List AV} {h : Hp} {Q : Option AV → Hp → Prop} (hd : decode M.2.1 pc = .ok (.arraylength, 1)) (k : Go M (pc + 1) lv (.inl (hL h 1) :: st) h Q) : Go M pc lv (.inr (.inr 1) :: st) h Q := by
  refine Go.of k fun r h' S => ?_
  intro base b D cA p l e R s m args below meth c H locs N0 S0 ls Qf C oh rl hn hss hRm hl ol os hlo hf
  obtain ⟨scr, x1, x2, x3, x4, x5⟩ := rl.2.2
  have hlen := oh.2.2.2.2.2.1 1
  rw [List.map_cons, rv_ref (by omega : (1 : Nat) ≠ 0), show ga base b 1 = b from if_pos rfl]
  exact W.alen C.1 C.2.1 x1 x2 (by rw [x4]; exact ofNat_toNat hlen.1) rfl rfl hd (S base b D cA p l e R s m args below meth c H locs N0 S0 ls Qf C oh rl hn hss hRm hl ol (ok_cons ⟨by omega, by omega⟩ (ok_tl os)) hlo hf)
theorem s_blen {M : MI} {pc : Nat} {lv : List (Nat × AV)} {st : List AV} {h : Hp} {Q : Option AV → Hp → Prop} {a : Nat} (hd : decode M.2.1 pc = .ok (.arraylength, 1)) (hk : hK h a = 13) (k : Go M (pc + 1) lv (.inl (hL h a) :: st) h Q) : Go M pc lv (.inr (.inr a) :: st) h Q := by
  refine Go.of k fun r h' S => ?_
  intro base b D cA p l e R s m args below meth c H locs N0 S0 ls Qf C oh rl hn hss hRm hl ol os hlo hf
  obtain ⟨ha2, haN⟩ := okH_lt oh hk (by omega)
  have hcell := (rl.2.1 a ha2 haN).2.1 (by omega) (by omega)
  rw [hk] at hcell
  have hlen := oh.2.2.2.2.2.1 a
  rw [List.map_cons, rv_ref (by omega : a ≠ 0)]
  exact W.alen C.1 C.2.1 hcell ((C.2.2.2.2.2.2.2.2.1.arr 1 rfl).1 _ _) (by rw [arrV_size]; exact ofNat_toNat hlen.1) rfl rfl hd (S base b D cA p l e R s m args below meth c H locs N0 S0 ls Qf C oh rl hn hss hRm hl ol (ok_cons ⟨by omega, by omega⟩ (ok_tl os)) hlo hf)
theorem s_iast {M : MI} {pc : Nat} {lv : List (Nat × AV)} {st : List AV} {h : Hp} {Q : Option AV → Hp → Prop} {a : Nat} {j v : Int} (hd : decode M.2.1 pc = .ok (.iastore, 1)) (hk : hK h a = 12) (h0 : 0 ≤ j) (h1 : j < hL h a)  (k : Go M (pc + 1) lv st (wI h a j v) Q) : Go M pc lv (.inl v :: .inl j :: .inr (.inr a) :: st) h Q := by
  refine Go.of2 k (Nat.le_refl _) (Nat.le_refl _) fun r h' hle1 hle2 S => ?_
  intro base b D cA p l e R s m args below meth c H locs N0 S0 ls Qf C oh rl hn hss hRm hl ol os hlo hf
  obtain ⟨ha2, haN⟩ := okH_lt oh hk (by omega)
  have hcell := (rl.2.1 a ha2 haN).2.1 (by omega) (by omega)
  rw [hk] at hcell
  have hlen := (oh.2.2.2.2.2.1 a).2
  rw [List.map_cons, List.map_cons, List.map_cons, rv_ref (by omega : a ≠ 0)]
  refine W.iast C.1 C.2.1 hcell ((C.2.2.2.2.2.2.2.2.1.arr 0 rfl).1 _ _) (fun q => by cases q) (by rw [arrV_size]; exact vp_in_z h0 h1 hlen) rfl rfl hd fun H1 e1 e2 e3 => ?_
  rw [i32_clamp h0 (by omega)] at e1
  refine S base b D cA p l e R s m args below meth c H1 _ N0 S0 ls Qf C (okH_wI oh (ok_hd os) (fun q => by omega)) (rl.upd (a := a) C.2.2.2.2.2.2.2.2.2 ha2 rfl (fun _ => rfl) (fun _ => rfl) (fun k j hk => by simp [hI, wI, hk]) (fun k j hk => rfl) e2 e3 ?_) hn hss hRm hl ol (ok_tl (ok_tl (ok_tl os))) (locs_snoc hlo (ga_lo ha2)) hf
  refine ⟨fun r hr => absurd (cls_lt hr) (by show ¬ hK h a < 12; omega), fun z1 z2 => ?_, fun z1 z2 => absurd z1 (by show ¬ 16 ≤ hK h a; omega)⟩
  rw [e1, arrV_store, show hK (wI h a j v) a = 12 from hk]
  show some (arrV _ (hL h a).toNat _) = some (arrV _ (hL h a).toNat _)
  congr 2
  funext i
  unfold updV
  by_cases hij : i = j.toNat
  · subst hij
    rw [if_pos rfl, toNat_cast h0]
    simp [hI, wI]
  · rw [if_neg hij]
    have hij2 : ¬ ((i : Int) = j) := by omega
    simp [hI, wI, hij2]
theorem s_bast {M : MI} {pc : Nat} {lv : List (Nat × AV)} {st : List AV} {h : Hp} {Q : Option AV → Hp → Prop} {a : Nat} {j v : Int} (hd : decode M.2.1 pc = .ok (.bastore, 1)) (hk : hK h a = 13) (h0 : 0 ≤ j) (h1 : j < hL h a) (hv : -128 ≤ v ∧ v ≤ 127) (k : Go M (pc + 1) lv st (wI h a j v) Q) : Go M pc lv (.inl v :: .inl j :: .inr (.inr a) :: st) h Q := by
  refine Go.of2 k (Nat.le_refl _) (Nat.le_refl _) fun r h' hle1 hle2 S => ?_
  intro base b D cA p l e R s m args below meth c H locs N0 S0 ls Qf C oh rl hn hss hRm hl ol os hlo hf
  obtain ⟨ha2, haN⟩ := okH_lt oh hk (by omega)
  have hcell := (rl.2.1 a ha2 haN).2.1 (by omega) (by omega)
  rw [hk] at hcell
  have hlen := (oh.2.2.2.2.2.1 a).2
  have hnar : narrow .byte (.int (Int32.ofInt v)) = .int (Int32.ofInt v) := congrArg Value.int (i2b_eq hv)
  rw [List.map_cons, List.map_cons, List.map_cons, rv_ref (by omega : a ≠ 0)]
  refine W.bast C.1 C.2.1 hcell ((C.2.2.2.2.2.2.2.2.1.arr 1 rfl).1 _ _) (fun q => by cases q) (by rw [arrV_size]; exact vp_in_z h0 h1 hlen) rfl rfl hd fun H1 e1 e2 e3 => ?_
  rw [i32_clamp h0 (by omega), hnar] at e1
  refine S base b D cA p l e R s m args below meth c H1 _ N0 S0 ls Qf C (okH_wI oh (ok_hd os) (fun q => hv)) (rl.upd (a := a) C.2.2.2.2.2.2.2.2.2 ha2 rfl (fun _ => rfl) (fun _ => rfl) (fun k j hk => by simp [hI, wI, hk]) (fun k j hk => rfl) e2 e3 ?_) hn hss hRm hl ol (ok_tl (ok_tl (ok_tl os))) (locs_snoc hlo (ga_lo ha2)) hf
  refine ⟨fun r hr => absurd (cls_lt hr) (by show ¬ hK h a < 12; omega), fun z1 z2 => ?_, fun z1 z2 => absurd z1 (by show ¬ 16 ≤ hK h a; omega)⟩
  rw [e1, arrV_store, show hK (wI h a j v) a = 13 from hk]
  show some (arrV _ (hL h a).toNat _) = some (arrV _ (hL h a).toNat _)
  congr 2
  funext i
  unfold updV
  by_cases hij : i = j.toNat
  · subst hij
    rw [if_pos rfl, toNat_cast h0]
    simp [hI, wI]
  · rw [if_neg hij]
    have hij2 : ¬ ((i : Int) = j) := by omega
    simp [hI, wI, hij2]
theorem s_zast {M : MI} {pc : Nat} {lv : List (Nat × AV)} {st : List AV} {h : Hp} {Q : Option AV → Hp → Prop} {a : Nat} {j v : Int} (hd : decode M.2.1 pc = .ok (.bastore, 1)) (hk : hK h a = 15) (h0 : 0 ≤ j) (h1 : j < hL h a) (hv : v = 0 ∨ v = 1) (k : Go M (pc + 1) lv st (wI h a j v) Q) : Go M pc lv (.inl v :: .inl j :: .inr (.inr a) :: st) h Q := by
  refine Go.of2 k (Nat.le_refl _) (Nat.le_refl _) fun r h' hle1 hle2 S => ?_
  intro base b D cA p l e R s m args below meth c H locs N0 S0 ls Qf C oh rl hn hss hRm hl ol os hlo hf
  obtain ⟨ha2, haN⟩ := okH_lt oh hk (by omega)
  have hcell := (rl.2.1 a ha2 haN).2.1 (by omega) (by omega)
  rw [hk] at hcell
  have hlen := (oh.2.2.2.2.2.1 a).2
  have hnar : narrow .boolean (.int (Int32.ofInt v)) = .int (Int32.ofInt v) := by rcases hv with rfl | rfl <;> rfl
  rw [List.map_cons, List.map_cons, List.map_cons, rv_ref (by omega : a ≠ 0)]
  refine W.zast C.1 C.2.1 hcell ((C.2.2.2.2.2.2.2.2.1.arr 3 rfl).1 _ _) (fun q => by cases q) (by rw [arrV_size]; exact vp_in_z h0 h1 hlen) rfl rfl hd fun H1 e1 e2 e3 => ?_
  rw [i32_clamp h0 (by omega), hnar] at e1
  refine S base b D cA p l e R s m args below meth c H1 _ N0 S0 ls Qf C (okH_wI oh (ok_hd os) (fun q => by omega)) (rl.upd (a := a) C.2.2.2.2.2.2.2.2.2 ha2 rfl (fun _ => rfl) (fun _ => rfl) (fun k j hk => by simp [hI, wI, hk]) (fun k j hk => rfl) e2 e3 ?_) hn hss hRm hl ol (ok_tl (ok_tl (ok_tl os))) (locs_snoc hlo (ga_lo ha2)) hf
  refine ⟨fun r hr => absurd (cls_lt hr) (by show ¬ hK h a < 12; omega), fun z1 z2 => ?_, fun z1 z2 => absurd z1 (by show ¬ 16 ≤ hK h a; omega)⟩
  rw [e1, arrV_store, show hK (wI h a j v) a = 15 from hk]
  show some (arrV _ (hL h a).toNat _) = some (arrV _ (hL h a).toNat _)
  congr 2
  funext i
  unfold updV
  by_cases hij : i = j.toNat
  · subst hij
    rw [if_pos rfl, toNat_cast h0]
    simp [hI, wI]
  · rw [if_neg hij]
    have hij2 : ¬ ((i : Int) = j) := by omega
    simp [hI, wI, hij2]
theorem s_cast {M : MI} {pc : Nat} {lv : List (Nat × AV)} {st : List AV} {h : Hp} {Q : Option AV → Hp → Prop} {a : Nat} {j v : Int} (hd : decode M.2.1 pc = .ok (.castore, 1)) (hk : hK h a = 14) (h0 : 0 ≤ j) (h1 : j < hL h a) (hv : 0 ≤ v ∧ v ≤ 65535) (k : Go M (pc + 1) lv st (wI h a j v) Q) : Go M pc lv (.inl v :: .inl j :: .inr (.inr a) :: st) h Q := by
  refine Go.of2 k (Nat.le_refl _) (Nat.le_refl _) fun r h' hle1 hle2 S => ?_
  intro base b D cA p l e R s m args below meth c H locs N0 S0 ls Qf C oh rl hn hss hRm hl ol os hlo hf
  obtain ⟨ha2, haN⟩ := okH_lt oh hk (by omega)
  have hcell := (rl.2.1 a ha2 haN).2.1 (by omega) (by omega)
  rw [hk] at hcell
  have hlen := (oh.2.2.2.2.2.1 a).2
  have hnar : narrow .char (.int (Int32.ofInt v)) = .int (Int32.ofInt v) := by
    have e := i2c_eq hv
    rw [← e]
    exact pk_nc _
  rw [List.map_cons, List.map_cons, List.map_cons, rv_ref (by omega : a ≠ 0)]
  refine W.cast C.1 C.2.1 hcell ((C.2.2.2.2.2.2.2.2.1.arr 2 rfl).1 _ _) (fun q => by cases q) (by rw [arrV_size]; exact vp_in_z h0 h1 hlen) rfl rfl hd fun H1 e1 e2 e3 => ?_
  rw [i32_clamp h0 (by omega), hnar] at e1
  refine S base b D cA p l e R s m args below meth c H1 _ N0 S0 ls Qf C (okH_wI oh (ok_hd os) (fun q => by omega)) (rl.upd (a := a) C.2.2.2.2.2.2.2.2.2 ha2 rfl (fun _ => rfl) (fun _ => rfl) (fun k j hk => by simp [hI, wI, hk]) (fun k j hk => rfl) e2 e3 ?_) hn hss hRm hl ol (ok_tl (ok_tl (ok_tl os))) (locs_snoc hlo (ga_lo ha2)) hf
  refine ⟨fun r hr => absurd (cls_lt hr) (by show ¬ hK h a < 12; omega), fun z1 z2 => ?_, fun z1 z2 => absurd z1 (by show ¬ 16 ≤ hK h a; omega)⟩
  rw [e1, arrV_store, show hK (wI h a j v) a = 14 from hk]
  show some (arrV _ (hL h a).toNat _) = some (arrV _ (hL h a).toNat _)
  congr 2
  funext i
  unfold updV
  by_cases hij : i = j.toNat
  · subst hij
    rw [if_pos rfl, toNat_cast h0]
    simp [hI, wI]
  · rw [if_neg hij]
    have hij2 : ¬ ((i : Int) = j) := by omega
    simp [hI, wI, hij2]
theorem s_aald {M : MI} {pc : Nat} {lv : List (Nat × AV)} {st : List AV} {h : Hp} {Q : Option AV → Hp → Prop} {a : Nat} {j : Int} (hd : decode M.2.1 pc = .ok (.aaload, 1)) (hk : hK h a = 16 ∨ hK h a = 17) (h0 : 0 ≤ j) (h1 : j < hL h a) (k : Go M (pc + 1) lv (.inr (.inr (hR h a j)) :: st) h Q) : Go M pc lv (.inl j :: .inr (.inr a) :: st) h Q := by
  refine Go.of k fun r h' S => ?_
  intro base b D cA p l e R s m args below meth c H locs N0 S0 ls Qf C oh rl hn hss hRm hl ol os hlo hf
  obtain ⟨ha2, haN⟩ := okH_lt oh rfl (by omega : hK h a < 18)
  have hcell := (rl.2.1 a ha2 haN).2.2 (by omega) (by omega)
  have hlen := (oh.2.2.2.2.2.1 a).2
  obtain ⟨ty, hty, harr⟩ : ∃ ty : FieldType, ty.isReference = true ∧ ArrOfT s (cA (hK h a)) ty := by
    rcases hk with hk | hk
    · rw [hk]; exact ⟨_, rfl, (C.2.2.2.2.2.2.2.2.1.arr 4 rfl).1⟩
    · rw [hk]; exact ⟨_, rfl, (C.2.2.2.2.2.2.2.2.1.arr 5 rfl).1⟩
  rw [List.map_cons, List.map_cons, rv_ref (by omega : a ≠ 0)]
  refine W.aald C.1 C.2.1 hcell (harr _ _) hty (fun q => by cases q) (by rw [arrV_size]; exact vp_in_z h0 h1 hlen) (v := rv (ga base b) (.inr (.inr (hR h a j)))) ?_ rfl rfl hd (S base b D cA p l e R s m args below meth c H locs N0 S0 ls Qf C oh rl hn hss hRm hl ol (ok_cons trivial (ok_tl (ok_tl os))) hlo hf)
  rw [i32_clamp h0 (by omega), arrV_read _ _ (by omega), toNat_cast h0]
  rfl
theorem s_aast {M : MI} {pc : Nat} {lv : List (Nat × AV)} {st : List AV} {h : Hp} {Q : Option AV → Hp → Prop} {a v : Nat} {j : Int} (hd : decode M.2.1 pc = .ok (.aastore, 1)) (hk : (hK h a = 16 ∧ hK h v = 2) ∨ (hK h a = 17 ∧ hK h v = 7)) (h0 : 0 ≤ j) (h1 : j < hL h a) (k : Go M (pc + 1) lv st (wR h a j v) Q) : Go M pc lv (.inr (.inr v) :: .inl j :: .inr (.inr a) :: st) h Q := by
  refine Go.of2 k (Nat.le_refl _) (Nat.le_refl _) fun r h' hle1 hle2 S => ?_
  intro base b D cA p l e R s m args below meth c H locs N0 S0 ls Qf C oh rl hn hss hRm hl ol os hlo hf
  obtain ⟨ha2, haN⟩ := okH_lt oh rfl (by omega : hK h a < 18)
  obtain ⟨hv2, hvN⟩ := okH_lt oh rfl (by omega : hK h v < 18)
  have hcell := (rl.2.1 a ha2 haN).2.2 (by omega) (by omega)
  have hlen := (oh.2.2.2.2.2.1 a).2
  obtain ⟨r0, C0, hc0, hr0, kA, comp, k1, k2, k3⟩ : ∃ (r0 : vw_C) (C0 : String), vwCl[hK h v]? = some r0 ∧ r0.1 = C0 ∧ ∃ (kA : Class) (comp : ClassId), s.vm.classes[cA (hK h a)]? = some kA ∧ kA.kind = .array comp (.object C0) ∧ s.vm.findClass C0 = some comp := by
    rcases hk with ⟨q1, q2⟩ | ⟨q1, q2⟩
    · obtain ⟨kA, comp, k1, k2, k3, -⟩ := (C.2.2.2.2.2.2.2.2.1.arr 4 rfl).2
      exact ⟨_, _, by rw [q2]; rfl, rfl, kA, comp, by rw [q1]; exact k1, k2, k3⟩
    · obtain ⟨kA, comp, k1, k2, k3, -⟩ := (C.2.2.2.2.2.2.2.2.1.arr 5 rfl).2
      exact ⟨_, _, by rw [q2]; rfl, rfl, kA, comp, by rw [q1]; exact k1, k2, k3⟩
  obtain ⟨cellV, g1, g2, g3, -⟩ := (rl.2.1 v hv2 hvN).1 _ hc0
  have hcls := (C.2.2.2.2.2.2.2.2.1.1.1 _ _ hc0).2
  rw [hr0] at hcls
  have hcomp : comp = D.1 (hK h v) := Option.some.inj (k3.symm.trans hcls.1)
  subst hcomp
  obtain ⟨kC, hkC, -⟩ := hcls.2
  rw [List.map_cons, List.map_cons, List.map_cons, rv_ref (by omega : a ≠ 0), rv_ref (by omega : v ≠ 0)]
  refine W.aast C.1 C.2.1 hcell (fun q h => by cases h) (fun h => by cases h) k1 k2 rfl hkC ⟨fun z => vp_in_z h0 h1 hlen (Or.inl z), by rw [arrV_size, i32_clamp h0 (by omega)]; omega⟩ g1 (fun q h => by rw [g3] at h; cases h) (by rw [g2]; exact hkC) (by rw [g2]; exact va_assign hcls) rfl rfl hd fun H1 e1 e2 e3 => ?_
  rw [i32_clamp h0 (by omega)] at e1
  refine S base b D cA p l e R s m args below meth c H1 _ N0 S0 ls Qf C (okH_wR oh) (rl.upd (a := a) C.2.2.2.2.2.2.2.2.2 ha2 rfl (fun _ => rfl) (fun _ => rfl) (fun k j hk => rfl) (fun k j hk => by simp [hR, wR, hk]) e2 e3 ?_) hn hss hRm hl ol (ok_tl (ok_tl (ok_tl os))) (locs_snoc hlo (ga_lo ha2)) hf
  refine ⟨fun r hr => absurd (cls_lt hr) (by show ¬ hK h a < 12; omega), fun z1 z2 => absurd z2 (by show ¬ hK h a < 16; omega), fun z1 z2 => ?_⟩
  rw [e1, arrV_store, show hK (wR h a j v) a = hK h a from rfl]
  show some (arrV _ (hL h a).toNat _) = some (arrV _ (hL h a).toNat _)
  congr 2
  funext i
  unfold updV
  by_cases hij : i = j.toNat
  · subst hij
    rw [if_pos rfl, toNat_cast h0]
    simp [hR, wR, rr]
    omega
  · rw [if_neg hij]
    have hij2 : ¬ ((i : Int) = j) := by omega
    simp [hR, wR, hij2]
