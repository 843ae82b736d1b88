/-! COMPONENT, part 9: reading, images -/
theorem q_read {S : St} {I : Im} {r : Rs} {kind : Int} {Q : Int → Hp → Prop} (c : Cs r) (hR : Rc S I) (w : WF S) (k : ∀ I', Rc (oRead S kind).2 I' → Ex aC I I' → Q (oRead S kind).1 (I', r)) : C_X11_read 2 kind (I, r) Q := by
  have ca := c.1
  unfold sRa at ca
  obtain ⟨s1, s2, s3, _⟩ := c.2.2.2.2.1
  have sp := c.2.2.2.2.2.2.2.2.2.2.2
  have okw := w.2.2.2.1
  have okn : NSok (sNw S) := w.2.2.2.2.1
  have hl := okn.1
  have e4 := hR.2.2.2.2.1.2.2.1
  unfold oRead at k
  apply G_X11_read
  unfold V_X11_read
  refine c_isKind (fun z => ⟨fun _ => ?_, fun z2 => absurd z2 (by decide)⟩) (fun z => ⟨fun z2 => absurd rfl z2, fun _ => ?_⟩)
  · rw [if_pos z] at k
    simp only [hK_p, hL_p, hI_p, hR_p, wI_p, cpI_p, hN_p, forall_eq, true_and, and_true, ne_eq, not_true_eq_false, not_false_eq_true, true_implies, false_implies, imp_false, implies_true, if_true, if_false, reduceCtorEq, ca, s1, s2, e4]
    refine ⟨fun z2 => ?_, fun z2 => ?_⟩
    · refine c_say s3 sp (by omega) hR.2.2.2.2.1.1 okn.2.1 (by omega) (by omega) (by omega) (by omega) (fun L hL xL => ?_)
      have hRL : Rc S L := hR.kept okw (xL.mono (fun a q z => by omega))
      have eL : Ex aC I L := xL.mono (fun a q z => by omega)
      simp only [hK_p, hL_p, hI_p, hR_p, wI_p, cpI_p, hN_p, forall_eq, true_and, and_true, ne_eq, not_true_eq_false, not_false_eq_true, true_implies, false_implies, imp_false, implies_true, if_true, if_false, reduceCtorEq, ca, s1, sp.1, hL.1, c.2.2.2.2.2.1.1]
      refine ⟨fun z3 => ?_, fun z3 => ?_⟩
      · rw [if_neg (by omega)] at k
        refine c_remember c hRL w (fun J hJ xJ => ?_)
        simp only [hK_p, hL_p, hI_p, hR_p, wI_p, cpI_p, hN_p, forall_eq, true_and, and_true, ne_eq, not_true_eq_false, not_false_eq_true, true_implies, false_implies, imp_false, implies_true, if_true, if_false, reduceCtorEq, ca, s1]
        refine c_becomeReading c.2.2.2.2.1 sp (by omega) (by omega) hJ.2.2.2.2.1 okn (hL.ex xJ (by omega) (fun q => by omega)) (by omega) (by omega) (by omega) (fun Z hZ xZ => ?_)
        simp only [hK_p, hL_p, hI_p, hR_p, wI_p, cpI_p, hN_p, forall_eq, true_and, and_true, ne_eq, not_true_eq_false, not_false_eq_true, true_implies, false_implies, imp_false, implies_true, if_true, if_false, reduceCtorEq, ca, s1, s2, s3.1, hZ.1.1]
        exact k Z (Rc.now hJ okw (xZ.mono (fun a q z => by omega)) hZ) (fun a q hq => by rw [xZ a q (by omega), xJ a q (by omega), eL a q hq])
      · rw [if_pos (by omega)] at k
        exact k L hRL eL
    · rw [if_pos (by omega)] at k
      exact k I hR (Ex.refl I)
  · rw [if_neg z] at k; exact k I hR (Ex.refl I)
theorem q_unread {S : St} {I : Im} {r : Rs} {Q : Int → Hp → Prop} (c : Cs r) (hR : Rc S I) (w : WF S) (k : ∀ I', Rc (oUnread S).2 I' → Ex aC I I' → Q (oUnread S).1 (I', r)) : C_X11_unread 2 (I, r) Q := by
  have ca := c.1
  unfold sRa at ca
  obtain ⟨s1, s2, s3, _⟩ := c.2.2.2.2.1
  have sp := c.2.2.2.2.2.2.2.2.2.2.2
  have okw := w.2.2.2.1
  have okn : NSok (sNw S) := w.2.2.2.2.1
  have hl := okn.1
  unfold oUnread at k
  apply G_X11_unread
  unfold V_X11_unread
  simp only [hK_p, hL_p, hI_p, hR_p, wI_p, cpI_p, hN_p, forall_eq, true_and, and_true, ne_eq, not_true_eq_false, not_false_eq_true, true_implies, false_implies, imp_false, implies_true, if_true, if_false, reduceCtorEq, ca, s1, s2]
  refine c_sizeUnsaid s3 hR.2.2.2.2.1.1 okn.2.1 (by omega) (by omega) ?_
  cases hu : un 9 (-1) (sNw S).1 with
  | none =>
    rw [hu] at k
    exact ⟨fun z => absurd rfl z, fun _ => k I hR (Ex.refl I)⟩
  | some ys =>
    rw [hu] at k
    dsimp only at k
    have e : szU (some ys) = ys.length := rfl
    rw [e]
    refine ⟨fun _ => ⟨fun z => ?_, fun z => ?_⟩, fun z => absurd z (by omega)⟩
    · rw [if_neg (by omega)] at k
      simp only [hK_p, hL_p, hI_p, hR_p, wI_p, cpI_p, hN_p, forall_eq, true_and, and_true, ne_eq, not_true_eq_false, not_false_eq_true, true_implies, false_implies, imp_false, implies_true, if_true, if_false, reduceCtorEq, ca, c.2.2.2.2.2.1.1]
      refine c_remember c hR w (fun J hJ xJ => ?_)
      simp only [hK_p, hL_p, hI_p, hR_p, wI_p, cpI_p, hN_p, forall_eq, true_and, and_true, ne_eq, not_true_eq_false, not_false_eq_true, true_implies, false_implies, imp_false, implies_true, if_true, if_false, reduceCtorEq, ca, s1, s2]
      refine c_unsay s3 sp (by omega) hJ.2.2.2.2.1.1 okn.2.1 hu (show (((sNw S).1.length : Nat) : Int) ≤ 60 by omega) (by omega) (by omega) (by omega) (by omega) (fun L hL xL => ?_)
      have hRL : Rc (uNP S (sNw S) (push S)) L := hJ.kept okw (xL.mono (fun a q z => by omega))
      simp only [hK_p, hL_p, hI_p, hR_p, wI_p, cpI_p, hN_p, forall_eq, true_and, and_true, ne_eq, not_true_eq_false, not_false_eq_true, true_implies, false_implies, imp_false, implies_true, if_true, if_false, reduceCtorEq, ca, s1, s2, s3.1]
      refine c_copyFrom s3 sp (by omega) hL (by omega) (by omega) (fun Z hZ xZ => ?_)
      simp only [hK_p, hL_p, hI_p, hR_p, wI_p, cpI_p, hN_p, forall_eq, true_and, and_true, ne_eq, not_true_eq_false, not_false_eq_true, true_implies, false_implies, imp_false, implies_true, if_true, if_false, reduceCtorEq, ca, s1, s2, s3.1, hZ.1]
      exact k Z (hRL.deed w hZ xZ) (fun a q hq => by rw [xZ a q (by omega), xL a q (by omega), xJ a q (by omega)])
    · rw [if_pos (by omega)] at k; exact k I hR (Ex.refl I)
theorem c_has2 {a : Nat} {i : Int} {h : Hp} {Q : Int → Hp → Prop} (k1 : 0 ≤ i ∧ i ≤ 1 → Q 1 h) (k0 : ¬ (0 ≤ i ∧ i ≤ 1) → Q 0 h) : C_X4_has a i h Q := by
  apply G_X4_has
  unfold V_X4_has
  exact ⟨fun z => k0 (by omega), fun z => ⟨fun z2 => k0 (by omega), fun z2 => k1 (by omega)⟩⟩
theorem cPa.nil {I : Im} {pa : List NS} {I' : Im} (h : cPa I pa) (e1 : I' 44 1 = I 44 1) (e2 : I' 44 2 = 0) : cPa I' [] := by
  obtain ⟨nx, n0, n1, n2, n3⟩ := h
  exact ⟨nx, n0, e1.trans n1, by rw [e2]; rfl, fun j n hj => by simp at hj⟩
theorem q_keep {S : St} {I : Im} {r : Rs} {i : Int} {Q : Int → Hp → Prop} (c : Cs r) (hR : Rc S I) (w : WF S) (k : ∀ I', Rc (oKeep S i).2 I' → Ex aC I I' → Q (oKeep S i).1 (I', r)) : C_X11_keep 2 i (I, r) Q := by
  have ca := c.1
  unfold sRa at ca
  have p1 := c.2.2.2.2.2.1.1
  obtain ⟨i1, ⟨i2, i3, i4⟩, ⟨i5, i6, i7⟩, ⟨i8, i9, i10⟩, i11⟩ := c.2.2.2.2.2.2.1
  unfold oKeep at k
  apply G_X11_keep
  unfold V_X11_keep
  simp only [hK_p, hL_p, hI_p, hR_p, wI_p, cpI_p, hN_p, forall_eq, true_and, and_true, ne_eq, not_true_eq_false, not_false_eq_true, true_implies, false_implies, imp_false, implies_true, if_true, if_false, reduceCtorEq, ca, i1]
  refine c_has2 (fun z => ⟨fun _ => ?_, fun z2 => absurd z2 (by decide)⟩) (fun z => ⟨fun z2 => absurd rfl z2, fun _ => ?_⟩)
  · rw [if_pos z] at k
    simp only [hK_p, hL_p, hI_p, hR_p, wI_p, cpI_p, hN_p, forall_eq, true_and, and_true, ne_eq, not_true_eq_false, not_false_eq_true, true_implies, false_implies, imp_false, implies_true, if_true, if_false, reduceCtorEq, ca, i1]
    apply G_X4_take
    unfold V_X4_take
    refine ⟨i1, c_has2 (fun _ => ⟨fun z2 => absurd z2 (by decide), fun _ => ?_⟩) (fun z2 => absurd z z2)⟩
    obtain ⟨j, hj⟩ : ∃ j : Nat, i = j := ⟨i.toNat, by omega⟩
    subst hj
    rw [Int.toNat_natCast] at k
    obtain ⟨t1, t2⟩ := i11 j (by omega)
    simp only [hK_p, hL_p, hI_p, hR_p, wI_p, cpI_p, hN_p, forall_eq, true_and, and_true, ne_eq, not_true_eq_false, not_false_eq_true, true_implies, false_implies, imp_false, implies_true, if_true, if_false, reduceCtorEq, i1, i2, i3, i4, t1, t2.1]
    refine ⟨by omega, c_copySt t2 c.2.2.2.2.1 (by omega) hR.2.2.2.2.1 w.2.2.2.2.1 (fun J hJ xJ => ?_)⟩
    simp only [hK_p, hL_p, hI_p, hR_p, wI_p, cpI_p, hN_p, forall_eq, true_and, and_true, ne_eq, not_true_eq_false, not_false_eq_true, true_implies, false_implies, imp_false, implies_true, if_true, if_false, reduceCtorEq, ca, i1, i5, i6, i7, i8, i9, i10]
    refine ⟨by omega, ⟨by omega, by omega, Or.inr trivial⟩, ?_⟩
    rw [p1]
    refine ⟨rfl, ?_⟩
    apply G_X6_clear
    unfold V_X6_clear
    simp only [hK_p, hL_p, hI_p, hR_p, wI_p, cpI_p, hN_p, forall_eq, true_and, and_true, ne_eq, not_true_eq_false, not_false_eq_true, true_implies, false_implies, imp_false, implies_true, if_true, if_false, reduceCtorEq, p1]
    have e20 : I 2 11 = sSd S := hR.2.2.2.2.2.2.2.1
    generalize hF : upI (upI (upI J 198 (j : Int) (I 2 11)) 199 (j : Int) 1) 44 2 0 = F
    have fo : ∀ a q, ¬ (a = 198 ∨ a = 199 ∨ (a = 44 ∧ q = 2) ∨ (200 + 5 * j ≤ a ∧ a < 205 + 5 * j)) → F a q = I a q := fun a q hq => by rw [← hF, upI_ne (by omega), upI_ne (by omega), upI_ne (by omega), xJ a q (by omega)]
    have fj : ∀ a, 200 ≤ a → F a = J a := fun a ha => funext fun q => by rw [← hF, upI_ne (by omega), upI_ne (by omega), upI_ne (by omega)]
    have er : ∀ a : Nat, a < 198 → a ≠ 44 → F a = I a := fun a h1 h2 => funext fun q => fo a q (by omega)
    obtain ⟨h1, h2, h3, h4, h5, h6, h7, h8, h9, h10⟩ := hR
    refine k F ⟨h1.kept (fo _ _ (by omega)) (er _ (by omega) (by omega)), (fo _ _ (by omega)).trans h2, (fo _ _ (by omega)).trans h3, h4.kept w.2.2.2.1.1 (fo _ _ (by omega)) (fun b b0 b1 => er b (by omega) (by omega)), h5.kept (fun b b0 b1 => er b (by omega) (by omega)), h6.nil (fo _ _ (by omega)) (by rw [← hF, upI_self]), fun l hl => ?_, (fo _ _ (by omega)).trans h8, h9.kept (fo _ _ (by omega)) (funext fun q => fo _ _ (by omega)) (funext fun q => fo _ _ (by omega)) (funext fun q => fo _ _ (by omega)), h10.kept (fo _ _ (by omega)) (funext fun q => fo _ _ (by omega)) (funext fun q => fo _ _ (by omega))⟩ (fun a q hq => fo a q (by omega))
    show ((if l = j then some (sNw S, sSd S) else sIm S l) = none → _) ∧ ∀ q, (if l = j then some (sNw S, sSd S) else sIm S l) = some q → _
    by_cases e : l = j
    · subst e
      rw [if_pos rfl]
      refine ⟨(fun z => by cases z), fun q hq => ?_⟩
      cases hq
      refine ⟨by rw [← hF, upI_ne (by omega), upI_self], hJ.kept (fun x x0 x1 => fj x (by omega)), by rw [← hF, upI_ne (by omega), upI_ne (by omega), upI_self, e20]⟩
    · rw [if_neg e]
      have g9 : F 199 l = I 199 l := by rw [← hF, upI_ne (by omega), upI_ne (by omega), upI_ne (by omega), xJ _ _ (by omega)]
      have g8 : F 198 l = I 198 l := by rw [← hF, upI_ne (by omega), upI_ne (by omega), upI_ne (by omega), xJ _ _ (by omega)]
      rw [g9, g8]
      refine ⟨(h7 l hl).1, fun q hq => ⟨((h7 l hl).2 q hq).1, (((h7 l hl).2 q hq).2.1).kept (fun x x0 x1 => funext fun q' => fo x q' ?_), ((h7 l hl).2 q hq).2.2⟩⟩
      omega
  · rw [if_neg z] at k; exact k I hR (Ex.refl I)
theorem q_goBack {S : St} {I : Im} {r : Rs} {i : Int} {Q : Int → Hp → Prop} (c : Cs r) (hR : Rc S I) (w : WF S) (k : ∀ I', Rc (oGoBack S i).2 I' → Ex aC I I' → Q (oGoBack S i).1 (I', r)) : C_X11_goBack 2 i (I, r) Q := by
  have ca := c.1
  unfold sRa at ca
  have p1 := c.2.2.2.2.2.1.1
  have s1 := c.2.2.2.2.1.1
  obtain ⟨i1, ⟨i2, i3, i4⟩, ⟨i5, i6, i7⟩, ⟨i8, i9, i10⟩, i11⟩ := c.2.2.2.2.2.2.1
  unfold oGoBack at k
  apply G_X11_goBack
  unfold V_X11_goBack
  simp only [hK_p, hL_p, hI_p, hR_p, wI_p, cpI_p, hN_p, forall_eq, true_and, and_true, ne_eq, not_true_eq_false, not_false_eq_true, true_implies, false_implies, imp_false, implies_true, if_true, if_false, reduceCtorEq, ca, i1]
  refine c_has2 (fun z => ⟨fun _ => ?_, fun z2 => absurd z2 (by decide)⟩) (fun z => ⟨fun z2 => absurd rfl z2, fun _ => ?_⟩)
  · rw [if_pos z] at k
    simp only [hK_p, hL_p, hI_p, hR_p, wI_p, cpI_p, hN_p, forall_eq, true_and, and_true, ne_eq, not_true_eq_false, not_false_eq_true, true_implies, false_implies, imp_false, implies_true, if_true, if_false, reduceCtorEq, ca, i1]
    obtain ⟨j, hj⟩ : ∃ j : Nat, i = j := ⟨i.toNat, by omega⟩
    subst hj
    rw [Int.toNat_natCast] at k
    obtain ⟨t1, t2⟩ := i11 j (by omega)
    obtain ⟨m1, m2⟩ := hR.2.2.2.2.2.2.1 j (by omega)
    apply G_X4_isKept
    unfold V_X4_isKept
    refine ⟨i1, c_has2 (fun _ => ⟨fun z2 => absurd z2 (by decide), fun _ => ?_⟩) (fun z2 => absurd z z2)⟩
    simp only [hK_p, hL_p, hI_p, hR_p, wI_p, cpI_p, hN_p, forall_eq, true_and, and_true, ne_eq, not_true_eq_false, not_false_eq_true, true_implies, false_implies, imp_false, implies_true, if_true, if_false, reduceCtorEq, i1, i8, i9, i10]
    cases him : sIm S j with
    | none =>
      rw [him] at k
      rw [m1 him]
      exact ⟨by omega, fun _ => k I hR (Ex.refl I), fun z2 => absurd rfl z2⟩
    | some q =>
      rw [him] at k
      dsimp only at k
      obtain ⟨g1, g2, g3⟩ := m2 q him
      have okq := w.2.2.2.2.2.2.1 j q him
      rw [g1]
      refine ⟨by omega, fun z2 => absurd z2 (by decide), fun _ => ⟨fun _ => ?_, fun z2 => absurd z2 (by decide)⟩⟩
      simp only [hK_p, hL_p, hI_p, hR_p, wI_p, cpI_p, hN_p, forall_eq, true_and, and_true, ne_eq, not_true_eq_false, not_false_eq_true, true_implies, false_implies, imp_false, implies_true, if_true, if_false, reduceCtorEq, ca, i1]
      apply G_X4_give
      unfold V_X4_give
      refine ⟨i1, c_has2 (fun _ => ⟨fun z2 => absurd z2 (by decide), fun _ => ?_⟩) (fun z2 => absurd z z2)⟩
      simp only [hK_p, hL_p, hI_p, hR_p, wI_p, cpI_p, hN_p, forall_eq, true_and, and_true, ne_eq, not_true_eq_false, not_false_eq_true, true_implies, false_implies, imp_false, implies_true, if_true, if_false, reduceCtorEq, i1, i2, i3, i4, t1, s1]
      refine ⟨by omega, c_copySt c.2.2.2.2.1 t2 (by omega) g2 okq.1 (fun J hJ xJ => ?_)⟩
      simp only [hK_p, hL_p, hI_p, hR_p, wI_p, cpI_p, hN_p, forall_eq, true_and, and_true, ne_eq, not_true_eq_false, not_false_eq_true, true_implies, false_implies, imp_false, implies_true, if_true, if_false, reduceCtorEq, ca, i1]
      apply G_X4_seedOf
      unfold V_X4_seedOf
      refine ⟨i1, c_has2 (fun _ => ⟨fun z2 => absurd z2 (by decide), fun _ => ?_⟩) (fun z2 => absurd z z2)⟩
      have j8 : J 198 j = q.2 := by rw [xJ _ _ (by omega), g3]
      simp only [hK_p, hL_p, hI_p, hR_p, wI_p, cpI_p, hN_p, forall_eq, true_and, and_true, ne_eq, not_true_eq_false, not_false_eq_true, true_implies, false_implies, imp_false, implies_true, if_true, if_false, reduceCtorEq, ca, i1, i5, i6, i7, j8, p1]
      refine ⟨by omega, ?_⟩
      apply G_X6_clear
      unfold V_X6_clear
      simp only [hK_p, hL_p, hI_p, hR_p, wI_p, cpI_p, hN_p, forall_eq, true_and, and_true, ne_eq, not_true_eq_false, not_false_eq_true, true_implies, false_implies, imp_false, implies_true, if_true, if_false, reduceCtorEq, p1]
      generalize hF : upI (upI J 2 11 q.2) 44 2 0 = F
      have fo : ∀ a x, ¬ ((39 ≤ a ∧ a < 44) ∨ (a = 2 ∧ x = 11) ∨ (a = 44 ∧ x = 2)) → F a x = I a x := fun a x hq => by rw [← hF, upI_ne (by omega), upI_ne (by omega), xJ a x (by omega)]
      have er : ∀ a : Nat, a ≠ 2 → (a < 39 ∨ 44 < a) → F a = I a := fun a h1 h2 => funext fun x => fo a x (by omega)
      obtain ⟨h1, h2, h3, h4, h5, h6, h7, h8, h9, h10⟩ := hR
      refine k F ⟨h1.kept (fo _ _ (by omega)) (er _ (by omega) (by omega)), (fo _ _ (by omega)).trans h2, (fo _ _ (by omega)).trans h3, h4.kept w.2.2.2.1.1 (fo _ _ (by omega)) (fun b b0 b1 => er b (by omega) (by omega)), hJ.kept (fun x x0 x1 => funext fun y => by rw [← hF, upI_ne (by omega), upI_ne (by omega)]), h6.nil (fo _ _ (by omega)) (by rw [← hF, upI_self]), h7.kept (fun b b0 b1 => er b (by omega) (by omega)), by rw [← hF, upI_ne (by omega), upI_self]; rfl, h9.kept (fo _ _ (by omega)) (er _ (by omega) (by omega)) (er _ (by omega) (by omega)) (er _ (by omega) (by omega)), h10.kept (fo _ _ (by omega)) (er _ (by omega) (by omega)) (er _ (by omega) (by omega))⟩ (fun a q hq => fo a q (by omega))
  · rw [if_neg z] at k; exact k I hR (Ex.refl I)
