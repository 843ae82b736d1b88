/-! COMPONENT, part 25: where a row falls apart -/
abbrev aTs : Nat → Int → Prop := fun a _ => (231 ≤ a ∧ a ≤ 239) ∨ 389 ≤ a
theorem c_beginF {I : Im} {r : Rs} {p o cp co c3 : Nat} {Lp Lo L3 : Int} {xs : List Int} {Q : Hp → Prop} (c : Cs r) (t : Tr r p o cp co c3 Lp Lo L3) (h : fg I 40 41 xs) (hl : xs.length ≤ 60) (k : ∀ I', fg I' p cp xs → Ex aTs I I' → Q (I', r)) : C_X9_begin 230 40 (I, r) Q := by
  obtain ⟨h1, ⟨h2, h3⟩, h4, h5, h6, ⟨h7, h8, h9⟩, ⟨h10, h11, h12⟩, h13, h14, h15, h16, h17, h18⟩ := t
  unfold tC at h7
  have b1 := c.2.2.2.2.2.2.2.2.2.1.1
  apply G_X9_begin
  unfold V_X9_begin
  simp only [hK_p, hL_p, hI_p, hR_p, wI_p, cpI_p, hN_p, forall_eq, true_and, and_true, ne_eq, not_true_eq_false, not_false_eq_true, true_implies, false_implies, imp_false, implies_true, if_true, if_false, reduceCtorEq, b1, h2, h4.1]
  exact c_copyFrom h4 c.2.2.2.2.1.2.2.1 (by omega) h (by omega) (by omega) (fun J hJ xJ => k J hJ (xJ.mono (fun a q z => by omega)))
theorem c_stepF {I : Im} {r : Rs} {p o cp co c3 : Nat} {Lp Lo L3 kind : Int} {xs : List Int} {Q : Hp → Prop} (c : Cs r) (t : Tr r p o cp co c3 Lp Lo L3) (h : fg I p cp xs) (hf : figs xs) (hl : xs.length ≤ 7680) (hLp : (xs.length : Int) ≤ Lp) (k : ∀ I' r' co' Lo', Tr r' o p co' cp c3 Lo' Lp L3 → Rx r r' → fg I' o co' (sayL kind xs) → ((sayL kind xs).length : Int) ≤ Lo' → Ex aTs I I' → Q (I', r')) : C_X9_step 230 kind (I, r) Q := by
  have t' := t
  obtain ⟨h1, ⟨h2, h3⟩, h4, h5, h6, ⟨h7, h8, h9⟩, ⟨h10, h11, h12⟩, h13, h14, h15, h16, h17, h18⟩ := t
  unfold tC at h7 h8
  have b1 := c.2.2.2.2.2.2.2.2.2.1.1
  apply G_X9_step
  unfold V_X9_step
  simp only [hK_p, hL_p, hI_p, hR_p, wI_p, cpI_p, hN_p, forall_eq, true_and, and_true, ne_eq, not_true_eq_false, not_false_eq_true, true_implies, false_implies, imp_false, implies_true, if_true, if_false, reduceCtorEq, b1, h2, h3]
  refine c_sayG h4 h5 h10 h hf hLp (by omega) (by omega) (by omega) (by omega) (fun J r' co' Lo' g hJ xJ => ?_)
  obtain ⟨g1, g2, g3⟩ := t'.grow (by omega) g
  have c' := c.of g2
  have sl := sayL_len kind xs
  refine ⟨c'.2.2.2.2.2.2.2.2.2.1.1, c_swap c' g1 (fun r'' t2 x2 => k J r'' co' Lo' t2 (g2.trans x2) hJ (by omega) (xJ.mono (fun a q z => by omega)))⟩
theorem plc0_len (row : List Int) : ∀ m : Nat, (plc row 0 m).length = m
  | 0 => rfl
  | m + 1 => by rw [plc_0, List.length_append, plc0_len row m]; rfl
theorem c_find {S : St} {I : Im} {r : Rs} {Q : Hp → Prop} (c : Cs r) (d : Dyn r) (hR : Rc S I) (w : WF S) (k : ∀ (I' : Im) (r' : Rs), Rc S I' → Ex aC I I' → Op r r' → I' 358 2 = (plc (sNw S).1 6 ((sNw S).1.length - 1)).length → Seg (I' 359) 0 ((plc (sNw S).1 6 ((sNw S).1.length - 1)).map fun p : Nat => (p : Int)) → Q (I', r')) : C_X5_find 358 40 230 (I, r) Q := by
  obtain ⟨p, o, cp, co, c3, Lp, Lo, L3, t⟩ := d
  have pt := c.2.2.2.2.2.2.2.2.2.2.1
  unfold sPt at pt
  obtain ⟨s1, s2, s3, _⟩ := c.2.2.2.2.1
  have ok := w.2.2.2.2.1
  have hl := ok.1
  have hf := ok.2.1
  have hn := hR.2.2.2.2.1.1
  generalize hrow : (sNw S).1 = row at *
  have hLp := t.2.2.2.2.2.2.2.1
  have b1 := c.2.2.2.2.2.2.2.2.2.1.1
  apply G_X5_find
  unfold V_X5_find
  refine ⟨pt.1, fun h1 e1 => ?_⟩
  subst e1
  rw [wI_p]
  refine Lp_X5_find_7_ind (fun x3 hh => ∃ (m : Nat) (J : Im), x3 = ((m + 1 : Nat) : Int) ∧ (m = 0 ∨ m < row.length) ∧ hh = (J, r) ∧ Ex aPp I J ∧ J 358 2 = m ∧ Seg (J 359) 0 ((plc row 0 m).map fun p : Nat => (p : Int)) ∧ Seg (J 360) 0 ((plc row 0 m).map fun p => ((sayN 0 (row.take p) 0).length : Int))) (fun x3 _ => 61 - x3.toNat) ?_ _ _ ⟨0, _, rfl, Or.inl rfl, rfl, fun a q hq => upI_ne (by omega), upI_self _ _ _ _, Seg.nil _ _, Seg.nil _ _⟩
  intro P x3 hh hI ih
  obtain ⟨m, J, rfl, m1, rfl, eJ, j0, j1, j2⟩ := hI
  have hnJ : fg J 40 41 row := hn.ex eJ (by omega) (fun q => by omega)
  have j57 : m = row.length - 1 → J_X5_find_57 358 40 230 (J, r) Q := by
    intro hm
    unfold J_X5_find_57
    refine ⟨b1, c_beginF c t hnJ hl (fun K hK xK => ?_)⟩
    refine Lp_X5_find_64_ind (fun x hh => ∃ (n : Nat) (K : Im) (r' : Rs) (p' o' cp' co' : Nat) (Lp' Lo' : Int), x = n ∧ n ≤ 6 ∧ hh = (K, r') ∧ Tr r' p' o' cp' co' c3 Lp' Lo' L3 ∧ Rx r r' ∧ fg K p' cp' (sayN 0 row n) ∧ ((sayN 0 row n).length : Int) ≤ Lp' ∧ Ex aTr I K ∧ K 358 2 = (plc row n m).length ∧ Seg (K 359) 0 ((plc row n m).map fun p : Nat => (p : Int)) ∧ Seg (K 360) 0 ((plc row n m).map fun p => ((sayN 0 (row.take p) n).length : Int))) (fun x _ => 6 - x.toNat) ?_ _ _ ⟨0, K, r, p, o, cp, co, Lp, Lo, rfl, by omega, rfl, t, Rx.refl r, hK, (show ((row.length : Nat) : Int) ≤ Lp by omega), fun a q hq => ?_, ?_, ?_, ?_⟩
    · intro P2 x hh hI ih2
      obtain ⟨n, K, r', p', o', cp', co', Lp', Lo', rfl, n1, rfl, n2, n3, n4, n5, n6, n7, n8, n9⟩ := hI
      have c' := c.of n3
      have b1' := c'.2.2.2.2.2.2.2.2.2.1.1
      have pt' := c'.2.2.2.2.2.2.2.2.2.2.1
      unfold BLp_X5_find_64
      refine ⟨fun z => ?_, fun z => ⟨b1', pt'.1, ?_⟩⟩
      · have : n = 6 := by omega
        subst this
        obtain ⟨g1, g2⟩ := hR.tried w n6
        rw [hm] at n7 n8
        exact k K r' g1 g2 ⟨n3, fun _ => ⟨p', o', cp', co', c3, Lp', Lo', L3, n2⟩⟩ n7 n8
      · have e230 : rR r' 230 0 = p' := n2.2.1.1
        rw [hR_p, e230]
        have hlm := plc_len row n m
        have s7 := sayN_7 0 hl (show n ≤ 7 by omega)
        refine c_follow (sd := fun p => (sayN 0 (row.take p) n).length) (sd' := fun p => (sayN 0 (row.take p) (n + 1)).length) (keep := fun p => apN row p (n + 1)) c' n2.2.2.1 n4 n5 (by omega) n7 n8 n9 (by omega) (plc_so hf (by omega)) (fun q hq => ?_) (fun q hq => ?_) (fun q hq _ => apN_new (plc_mem hq).2) (fun L l1 l2 l3 l4 => ⟨b1', ?_⟩)
        · have := plc_mem hq
          exact apN_lt hf (by omega) this.2
        · have := plc_mem hq
          exact apN_keep hf (by omega) this.2
        · rw [plc_next] at l1 l2 l3
          have q1 := n2.1
          have q2 := n2.2.2.2.2.2.1.1
          unfold tC at q2
          refine c_stepF c' n2 (n4.ex l4 (by omega) (fun q => by omega)) (sayN_fig 0 hf n) s7 n5 (fun L2 r2 co2 Lo2 t2 x2 hL2 lL2 xL2 => ⟨by omega, ih2 _ _ ⟨n + 1, L2, r2, o', p', co2, cp', Lo2, Lp', by omega, by omega, rfl, t2, n3.trans x2, hL2, lL2, fun a q hq => ?_, ?_, ?_, ?_⟩ (by omega)⟩)
          · rw [xL2 a q (by omega), l4 a q (by omega), n6 a q hq]
          · rw [xL2 _ _ (by omega), l1]
          · exact l2.congr (fun q _ _ => xL2 _ _ (by omega))
          · exact l3.congr (fun q _ _ => xL2 _ _ (by omega))
    · rw [xK a q (by omega), eJ a q (by omega)]
    · rw [xK _ _ (by omega), j0, plc0_len]
    · exact j1.congr (fun q _ _ => xK _ _ (by omega))
    · exact j2.congr (fun q _ _ => xK _ _ (by omega))
  unfold BLp_X5_find_7
  simp only [hK_p, hL_p, hI_p, hR_p, wI_p, cpI_p, hN_p, forall_eq, true_and, and_true, ne_eq, not_true_eq_false, not_false_eq_true, true_implies, false_implies, imp_false, implies_true, if_true, if_false, reduceCtorEq, pt, s3.1, hnJ.1, j0]
  refine ⟨fun z => j57 (by omega), fun z => ⟨fun z2 => j57 (by omega), fun z2 => ?_⟩⟩
  have f1 : upI J 359 (m : Int) ((m + 1 : Nat) : Int) 358 2 = m := by rw [upI_ne (by omega), j0]
  have f2 : upI (upI J 359 (m : Int) ((m + 1 : Nat) : Int)) 360 (m : Int) ((m + 1 : Nat) : Int) 358 2 = m := by rw [upI_ne (by omega), f1]
  simp only [hK_p, hL_p, hI_p, hR_p, wI_p, cpI_p, hN_p, forall_eq, true_and, and_true, ne_eq, not_true_eq_false, not_false_eq_true, true_implies, false_implies, imp_false, implies_true, if_true, if_false, reduceCtorEq, pt, f1, f2]
  have ll := plc0_len row m
  have lm : ((plc row 0 m).map fun p : Nat => (p : Int)).length = m := by rw [List.length_map, ll]
  have lm2 : ((plc row 0 m).map fun p => ((sayN 0 (row.take p) 0).length : Int)).length = m := by rw [List.length_map, ll]
  refine ⟨by omega, by omega, by omega, by omega, ih _ _ ⟨m + 1, _, by omega, Or.inr (by omega), rfl, fun a q hq => ?_, ?_, ?_, ?_⟩ (by omega)⟩
  · rw [upI_ne (by omega), upI_ne (by omega), upI_ne (by omega), eJ a q hq]
  · rw [upI_self]; omega
  · rw [plc_0, List.map_append]
    refine j1.snoc (fun q q1 q2 => ?_) ?_
    · rw [upI_ne (by omega), upI_ne (by omega), upI_ne (by omega)]
    · rw [lm, upI_ne (by omega), upI_ne (by omega), upI_at, if_pos (by omega)]
  · rw [plc_0, List.map_append]
    refine j2.snoc (fun q q1 q2 => ?_) ?_
    · rw [upI_ne (by omega), upI_ne (by omega), upI_ne (by omega)]
    · rw [lm2, upI_ne (by omega), upI_at, if_pos (by omega)]
      show _ = ((row.take (m + 1)).length : Int)
      rw [List.length_take]; omega
theorem lpF_rng : ∀ (ps : List Nat) (z : Int × Int), (∀ p ∈ ps, p ≤ 60) → (0 ≤ z.1 ∧ z.1 ≤ 60) → (0 ≤ z.2 ∧ z.2 ≤ 60) → (0 ≤ (ps.foldl lpF z).1 ∧ (ps.foldl lpF z).1 ≤ 60) ∧ (0 ≤ (ps.foldl lpF z).2 ∧ (ps.foldl lpF z).2 ≤ 60)
  | [], _, _, h1, h2 => ⟨h1, h2⟩
  | p :: ps, z, h, h1, h2 => by
    have hp := h p (List.mem_cons_self ..)
    refine lpF_rng ps (lpF z p) (fun q hq => h q (List.mem_cons_of_mem _ hq)) ?_ ?_
    · show 0 ≤ max z.1 ((p : Int) - z.2) ∧ max z.1 ((p : Int) - z.2) ≤ 60; omega
    · show 0 ≤ (p : Int) ∧ (p : Int) ≤ 60; omega
theorem c_longestPart {I : Im} {r : Rs} {n : Nat} {ps : List Nat} {Q : Int → Hp → Prop} (c : Cs r) (h0 : I 358 2 = ps.length) (h1 : Seg (I 359) 0 (ps.map fun p : Nat => (p : Int))) (hp : ∀ p ∈ ps, p ≤ 60) (hl : ps.length ≤ 60) (hn : n ≤ 60) (k : Q (max (ps.foldl lpF (0, 0)).1 ((n : Int) - (ps.foldl lpF (0, 0)).2)) (I, r)) : C_X5_longestPart 358 n (I, r) Q := by
  have pt := c.2.2.2.2.2.2.2.2.2.2.1
  unfold sPt at pt
  apply G_X5_longestPart
  unfold V_X5_longestPart
  refine Lp_X5_longestPart_7_ind (fun x2 x3 x4 hh => ∃ t : Nat, x4 = t ∧ t ≤ ps.length ∧ hh = (I, r) ∧ (x2, x3) = (ps.take t).foldl lpF (0, 0)) (fun _ _ x4 _ => ps.length - x4.toNat) ?_ _ _ _ _ ⟨0, rfl, Nat.zero_le _, rfl, rfl⟩
  intro P x2 x3 x4 hh hI ih
  obtain ⟨t, rfl, t1, rfl, t2⟩ := hI
  have rg := lpF_rng (ps.take t) (0, 0) (fun p hp' => hp p (List.mem_of_mem_take hp')) (by omega) (by omega)
  rw [← t2] at rg
  dsimp only at rg
  unfold BLp_X5_longestPart_7
  simp only [hK_p, hL_p, hI_p, hR_p, wI_p, cpI_p, hN_p, forall_eq, true_and, and_true, ne_eq, not_true_eq_false, not_false_eq_true, true_implies, false_implies, imp_false, implies_true, if_true, if_false, reduceCtorEq, pt, h0]
  refine ⟨fun z => ⟨by omega, ?_⟩, fun z => ?_⟩
  · have : t = ps.length := by omega
    subst this
    rw [List.take_length] at t2
    rw [← t2] at k
    exact k
  · have ht : t < ps.length := by omega
    have e : I 359 (t : Int) = (ps[t] : Int) := by
      have := h1.get (k := t) (by rw [List.length_map]; exact ht)
      rw [Int.zero_add, List.getElem_map] at this
      exact this
    have hb := hp ps[t] (List.getElem_mem ht)
    rw [e]
    refine ⟨by omega, by omega, by omega, by omega, ih _ _ _ _ ⟨t + 1, by omega, ht, rfl, ?_⟩ (by omega)⟩
    rw [List.take_succ_eq_append_getElem ht, List.foldl_append, ← t2]
    rfl
theorem q_apart {S : St} {I : Im} {r : Rs} {q : Int} {Q : Int → Hp → Prop} (c : Cs r) (d : Dyn r) (hR : Rc S I) (w : WF S) (k : ∀ I' r', Rc S I' → Ex aC I I' → Op r r' → Q (oApart S q) (I', r')) : C_X11_apart 2 q (I, r) Q := by
  have ca := c.1
  unfold sRa at ca
  obtain ⟨s1, s2, s3, _⟩ := c.2.2.2.2.1
  have hl := w.2.2.2.2.1.1
  have pt := c.2.2.2.2.2.2.2.2.2.2.1
  unfold oApart at k
  apply G_X11_apart
  unfold V_X11_apart
  have no : ¬ (0 ≤ q ∧ q ≤ 2) → Q (-1000000002) (I, r) := fun z => by rw [if_neg z] at k; exact k I r hR (Ex.refl I) (Op.refl r)
  refine ⟨fun z => no (by omega), fun z => ⟨fun z2 => ?_, fun z2 => no (by omega)⟩⟩
  rw [if_pos (by omega)] at k
  simp only [hK_p, hL_p, hI_p, hR_p, wI_p, cpI_p, hN_p, forall_eq, true_and, and_true, ne_eq, not_true_eq_false, not_false_eq_true, true_implies, false_implies, imp_false, implies_true, if_true, if_false, reduceCtorEq, ca, s1, s2, pt.1]
  refine c_find c d hR w (fun J r' g1 g2 g3 j0 j1 => ?_)
  have c' := c.of g3.1
  have ca' := c'.1
  unfold sRa at ca'
  obtain ⟨s1', s2', s3', _⟩ := c'.2.2.2.2.1
  have pt' := c'.2.2.2.2.2.2.2.2.2.2.1
  unfold sPt at pt'
  have k := k J r' g1 g2 g3
  obtain ⟨a1, a2, a3⟩ := plc_apS (sNw S).1 ((sNw S).1.length - 1)
  have hm : ∀ p ∈ plc (sNw S).1 6 ((sNw S).1.length - 1), p ≤ 60 := fun p hp => by have := (plc_mem hp).1; omega
  have hpl := plc_len (sNw S).1 6 ((sNw S).1.length - 1)
  have e40 : J 40 1 = (sNw S).1.length := g1.2.2.2.2.1.1.1
  rw [a1, a2, show (apS (sNw S).1 ((sNw S).1.length - 1)).2.2.2 = ((plc (sNw S).1 6 ((sNw S).1.length - 1)).foldl lpF (0, 0)).1 by rw [← a3], show (apS (sNw S).1 ((sNw S).1.length - 1)).2.2.1 = ((plc (sNw S).1 6 ((sNw S).1.length - 1)).foldl lpF (0, 0)).2 by rw [← a3]] at k
  generalize plc (sNw S).1 6 ((sNw S).1.length - 1) = ps at *
  simp only [hK_p, hL_p, hI_p, hR_p, wI_p, cpI_p, hN_p, forall_eq, true_and, and_true, ne_eq, not_true_eq_false, not_false_eq_true, true_implies, false_implies, imp_false, implies_true, if_true, if_false, reduceCtorEq, ca', s1', s2', pt', s3'.1, j0, e40]
  refine ⟨fun z3 => ?_, fun z3 => ?_, fun z3 => ?_⟩
  · rw [if_pos z3] at k; exact k
  · rw [if_neg (by omega), if_pos z3] at k
    apply G_X5_firstPlace
    unfold V_X5_firstPlace
    simp only [hK_p, hL_p, hI_p, hR_p, wI_p, cpI_p, hN_p, forall_eq, true_and, and_true, ne_eq, not_true_eq_false, not_false_eq_true, true_implies, false_implies, imp_false, implies_true, if_true, if_false, reduceCtorEq, pt', j0]
    match ps, j0, j1, k with
    | [], _, _, k => exact ⟨fun _ => k, fun z4 => absurd z4 (by decide)⟩
    | p :: ps, _, j1, k =>
      refine ⟨fun z4 => absurd z4 (by simp), fun z4 => ?_⟩
      have := j1.hd
      rw [this]
      exact ⟨by omega, k⟩
  · rw [if_neg z3.1, if_neg z3.2] at k
    exact c_longestPart c' j0 j1 hm (by omega) (by omega) k
