/-! COMPONENT, part 14: the desk's text -/
def Op (r r' : Rs) : Prop := Rx r r' ∧ (Dyn r → Dyn r')
theorem Op.refl (r : Rs) : Op r r := ⟨Rx.refl r, id⟩
theorem Op.trans {r r' r'' : Rs} (h1 : Op r r') (h2 : Op r' r'') : Op r r'' := ⟨h1.1.trans h2.1, fun d => h2.2 (h1.2 d)⟩
theorem Op.opn (r : Rs) (v : Nat) : Op r (upR r 3 6 v) := ⟨Rx.opn r v, fun d => d.opn v⟩
/-- what is read of the text so far -/
def pI (r : Rs) (I : Im) (m : Nat) (cur row : List Int) (ws : List (List Int)) : Prop := (row.length ≤ 60 ∧ okWl ws ∧ cur.length ≤ (if m = 1 then 60 else 8) ∧ figs cur) ∧
  ((m = 0 ∧ rR r 3 6 = 0 ∧ fg I 5 6 row ∧ cWl I 7 ws) ∨ (m = 1 ∧ rR r 3 6 = 5 ∧ fg I 5 6 cur ∧ cWl I 7 ws) ∨
   (m = 2 ∧ ws.length < 6 ∧ rR r 3 6 = 11 + 2 * ws.length ∧ fg I 5 6 row ∧ I 7 3 = ws.length + 1 ∧ (∀ (w : Nat) (x : List Int), ws[w]? = some x → fg I (7 + 4 + 2 * w) (7 + 5 + 2 * w) x) ∧ fg I (11 + 2 * ws.length) (12 + 2 * ws.length) cur))
abbrev aDk : Nat → Int → Prop := fun a _ => 5 ≤ a ∧ a ≤ 22
theorem c_wopen {I : Im} {r : Rs} {ws : List (List Int)} {Q : Nat → Hp → Prop} (s : sWL r 7) (h : cWl I 7 ws) (ok : okWl ws) (k0 : ws.length = 6 → Q 0 (I, r)) (k1 : ∀ I' : Im, ws.length < 6 → I' 7 3 = ws.length + 1 → (∀ (w : Nat) (x : List Int), ws[w]? = some x → fg I' (7 + 4 + 2 * w) (7 + 5 + 2 * w) x) → fg I' (11 + 2 * ws.length) (12 + 2 * ws.length) [] → Ex (fun a _ => 7 ≤ a ∧ a ≤ 22) I I' → Q (11 + 2 * ws.length) (I', r)) : C_X10_open 7 (I, r) Q := by
  obtain ⟨s1, ⟨s2, s3, s4⟩, _, _, s5⟩ := s
  have hl := ok.1
  apply G_X10_open
  unfold V_X10_open
  simp only [hK_p, hL_p, hI_p, hR_p, wI_p, cpI_p, hN_p, forall_eq, true_and, and_true, ne_eq, not_true_eq_false, not_false_eq_true, true_implies, false_implies, imp_false, implies_true, if_true, if_false, reduceCtorEq, s1, h.1]
  refine ⟨fun z => ?_, fun z => k0 (by omega)⟩
  obtain ⟨t1, t2⟩ := s5 ws.length (by omega)
  have f1 : upI I (7 + 4 + 2 * ws.length) 1 0 7 3 = ws.length := by rw [upI_ne (by omega), h.1]
  simp only [hK_p, hL_p, hI_p, hR_p, wI_p, cpI_p, hN_p, forall_eq, true_and, and_true, ne_eq, not_true_eq_false, not_false_eq_true, true_implies, false_implies, imp_false, implies_true, if_true, if_false, reduceCtorEq, s2, s3, s4, t1, t2.1, f1]
  refine ⟨by omega, by omega, ?_⟩
  have k1 := k1 (upI (upI I (7 + 4 + 2 * ws.length) 1 0) 7 3 ((ws.length : Int) + 1)) (by omega) (by rw [upI_self]) (fun w x hx => ?_) ⟨?_, Seg.nil _ _⟩ (fun a q hq => ?_)
  · rw [show 7 + 4 + 2 * ws.length = 11 + 2 * ws.length by omega] at *
    exact k1
  · have hw := (List.getElem?_eq_some_iff.mp hx).1
    refine (h.2 w x hx).kept ?_ (funext fun q => ?_)
    · rw [upI_ne (by omega), upI_ne (by omega)]
    · rw [upI_ne (by omega), upI_ne (by omega)]
  · rw [upI_ne (by omega), show 11 + 2 * ws.length = 7 + 4 + 2 * ws.length by omega, upI_self]; rfl
  · rw [upI_ne (by omega), upI_ne (by omega)]
theorem pz_c (m : Nat) (cur row : List Int) (ws : List (List Int)) (i x : Int) (xs : List Int) : pz m cur row ws i (x :: xs) = if x = 32 then pz m cur row ws (i + 1) xs
    else if m = 0 then (if x = 114 then (if row = [] then pz 1 [] row ws (i + 1) xs else (3, i, row, ws)) else if x = 119 then (if row = [] then (1, i, row, ws) else if ws.length = 6 then (3, i, row, ws) else pz 2 [] row ws (i + 1) xs) else (1, i, row, ws))
    else if 48 ≤ x ∧ x ≤ 57 then (if cur.length = (if m = 1 then 60 else 8) then (2, i, row, ws) else pz m (cur ++ [x - 48]) row ws (i + 1) xs)
    else if x = 59 ∧ cur ≠ [] then (if m = 1 then pz 0 [] cur ws (i + 1) xs else pz 0 [] row (ws ++ [cur]) (i + 1) xs)
    else (1, i, row, ws) := rfl
theorem c_goOn {I : Im} {r : Rs} {x : Int} {a c : Nat} {lim : Int} {cur : List Int} {Q : Int → Hp → Prop} (k3 : rK r 3 = 1) (s : Fs r a c lim) (h : fg I a c cur) (hl : (cur.length : Int) ≤ lim) (hlm : lim ≤ 60)
    (kd : 48 ≤ x ∧ x ≤ 57 → (cur.length : Int) < lim → ∀ I', fg I' a c (cur ++ [x - 48]) → Ex (aF a c) I I' → Q 0 (I', r)) (kfull : 48 ≤ x ∧ x ≤ 57 → (cur.length : Int) = lim → Q 2 (I, r)) (kend : ¬ (48 ≤ x ∧ x ≤ 57) → x = 59 → cur ≠ [] → Q 0 (I, upR r 3 6 0)) (kbad : ¬ (48 ≤ x ∧ x ≤ 57) → ¬ (x = 59 ∧ cur ≠ []) → Q 1 (I, r)) : C_X1_goOn 3 x a (I, r) Q := by
  have j29 : ¬ (48 ≤ x ∧ x ≤ 57) → J_X1_goOn_29 3 x a (I, r) Q := by
    intro hx
    unfold J_X1_goOn_29
    simp only [hK_p, hL_p, hI_p, hR_p, wI_p, cpI_p, hN_p, forall_eq, true_and, and_true, ne_eq, not_true_eq_false, not_false_eq_true, true_implies, false_implies, imp_false, implies_true, if_true, if_false, reduceCtorEq, wR_p, s.1, k3, h.1]
    refine ⟨fun z => kbad hx (fun zz => z zz.1), fun z => ⟨fun z2 => kend hx z (fun zz => z2 (by rw [zz]; rfl)), fun z2 => kbad hx (fun zz => zz.2 (List.length_eq_zero_iff.mp (by omega)))⟩⟩
  apply G_X1_goOn
  unfold V_X1_goOn
  refine ⟨fun z => j29 (by omega), fun z => ⟨fun z2 => j29 (by omega), fun z2 => ⟨by omega, s.1, ?_⟩⟩⟩
  by_cases e : (cur.length : Int) < lim
  · exact c_add s h e (by omega) (by omega) (fun K hK xK => ⟨fun z3 => absurd z3 (by decide), fun _ => kd (by omega) e K hK xK⟩)
  · exact c_add_full s h (by omega) ⟨fun _ => kfull (by omega) (by omega), fun z3 => absurd rfl z3⟩
theorem c_takeLetter {I : Im} {r : Rs} {m : Nat} {cur row : List Int} {ws : List (List Int)} {x : Int} {Q : Int → Hp → Prop} (c : Cs r) (h : pI r I m cur row ws)
    (kf : ∀ f : Int, (f = 1 ∨ f = 2 ∨ f = 3) → (∀ i xs, pz m cur row ws i (x :: xs) = (f, i, row, ws)) → ∀ I' r', Ex aDk I I' → Op r r' → Q f (I', r'))
    (kg : ∀ m' cur' row' ws', (∀ i xs, pz m cur row ws i (x :: xs) = pz m' cur' row' ws' (i + 1) xs) → ∀ I' r', pI r' I' m' cur' row' ws' → Ex aDk I I' → Op r r' → Q 0 (I', r')) : C_X1_takeLetter 3 x (I, r) Q := by
  obtain ⟨d1, _, d2, d3, d4⟩ := c.2.1
  have sw := c.2.2.1
  apply G_X1_takeLetter
  unfold V_X1_takeLetter
  simp only [hK_p, hL_p, hI_p, hR_p, wI_p, cpI_p, hN_p, forall_eq, true_and, and_true, ne_eq, not_true_eq_false, not_false_eq_true, true_implies, false_implies, imp_false, implies_true, if_true, if_false, reduceCtorEq, d1]
  refine ⟨fun z => ?_, fun z => kg m cur row ws (fun i xs => by rw [pz_c, if_pos z]) I r h (Ex.refl I) (Op.refl r)⟩
  have pc : ∀ i xs, pz m cur row ws i (x :: xs) = if m = 0 then (if x = 114 then (if row = [] then pz 1 [] row ws (i + 1) xs else (3, i, row, ws)) else if x = 119 then (if row = [] then (1, i, row, ws) else if ws.length = 6 then (3, i, row, ws) else pz 2 [] row ws (i + 1) xs) else (1, i, row, ws))
    else if 48 ≤ x ∧ x ≤ 57 then (if cur.length = (if m = 1 then 60 else 8) then (2, i, row, ws) else pz m (cur ++ [x - 48]) row ws (i + 1) xs)
    else if x = 59 ∧ cur ≠ [] then (if m = 1 then pz 0 [] cur ws (i + 1) xs else pz 0 [] row (ws ++ [cur]) (i + 1) xs)
    else (1, i, row, ws) := fun i xs => by rw [pz_c, if_neg z]
  obtain ⟨⟨q1, q2, q3, q4⟩, hh⟩ := h
  rcases hh with ⟨hm, ho, hr, hw⟩ | ⟨hm, ho, hr, hw⟩ | ⟨hm, hl, ho, hr, hw3, hws, hc⟩
  · -- between clauses
    subst hm
    rw [ho]
    refine ⟨fun z2 => absurd rfl z2, fun _ => ?_⟩
    simp only [if_true] at pc
    have rn : row = [] ↔ row.length = 0 := List.length_eq_zero_iff.symm
    apply G_X1_openClause
    unfold V_X1_openClause
    simp only [hK_p, hL_p, hI_p, hR_p, wI_p, cpI_p, hN_p, forall_eq, true_and, and_true, ne_eq, not_true_eq_false, not_false_eq_true, true_implies, false_implies, imp_false, implies_true, if_true, if_false, reduceCtorEq, d1, d2, d4.1, hr.1]
    have j34w : x = 119 → ¬ row = [] → ∀ y : Int, J_X1_openClause_34 3 x y (I, r) Q := by
      intro hx hrow y
      unfold J_X1_openClause_34 J_X1_openClause_66
      simp only [hK_p, hL_p, hI_p, hR_p, wI_p, cpI_p, hN_p, forall_eq, true_and, and_true, ne_eq, not_true_eq_false, not_false_eq_true, true_implies, false_implies, imp_false, implies_true, if_true, if_false, reduceCtorEq, d1, d3, sw.1]
      refine ⟨fun z2 => absurd hx z2, fun _ => c_wopen sw hw q2 (fun h6 => ?_) (fun J h6 j3 jw jc xJ => ?_)⟩
      · simp only [hK_p, hL_p, hI_p, hR_p, wI_p, cpI_p, hN_p, forall_eq, true_and, and_true, ne_eq, not_true_eq_false, not_false_eq_true, true_implies, false_implies, imp_false, implies_true, if_true, if_false, reduceCtorEq, wR_p, upR_K, upR_self, d1]
        refine kf 3 (by omega) (fun i xs => ?_) I _ (Ex.refl I) (Op.opn r 0)
        rw [pc, if_neg (by omega), if_pos hx, if_neg hrow, if_pos h6]
      · simp only [hK_p, hL_p, hI_p, hR_p, wI_p, cpI_p, hN_p, forall_eq, true_and, and_true, ne_eq, not_true_eq_false, not_false_eq_true, true_implies, false_implies, imp_false, implies_true, if_true, if_false, reduceCtorEq, wR_p, upR_K, upR_self, d1]
        refine ⟨fun _ => kg 2 [] row ws (fun i xs => ?_) J _ ⟨⟨q1, q2, by simp, figs.nil⟩, Or.inr (Or.inr ⟨rfl, h6, upR_self _ _ _ _, hr.ex xJ (by omega) (fun q => by omega), j3, jw, jc⟩)⟩ (xJ.mono (fun a q z => by omega)) (Op.opn r _), fun z2 => absurd (by omega) z2⟩
        rw [pc, if_neg (by omega), if_pos hx, if_neg hrow, if_neg (by omega)]
    refine ⟨fun z2 => ?_, fun z2 => ?_⟩
    · have hrow : row = [] := rn.mpr (by omega)
      unfold J_X1_openClause_15
      refine ⟨fun z3 => ?_, fun z3 => ⟨fun z4 => ?_, fun z4 => ⟨fun z5 => absurd rfl z5, fun _ => ?_⟩⟩⟩
      · unfold J_X1_openClause_34 J_X1_openClause_66
        simp only [hK_p, hL_p, hI_p, hR_p, wI_p, cpI_p, hN_p, forall_eq, true_and, and_true, ne_eq, not_true_eq_false, not_false_eq_true, true_implies, false_implies, imp_false, implies_true, if_true, if_false, reduceCtorEq, wR_p, upR_K, upR_self, d1, d2]
        refine ⟨fun z4 => kg 1 [] row ws (fun i xs => ?_) I _ ⟨⟨q1, q2, by simp, figs.nil⟩, Or.inr (Or.inl ⟨rfl, upR_self _ _ _ _, by rw [← hrow]; exact hr, hw⟩)⟩ (Ex.refl I) (Op.opn r 5), fun z4 => absurd z4 (by omega)⟩
        rw [pc, if_pos z3, if_pos hrow]
      · exact kf 1 (by omega) (fun i xs => by rw [pc, if_neg z3, if_neg z4]) I r (Ex.refl I) (Op.refl r)
      · exact kf 1 (by omega) (fun i xs => by rw [pc, if_neg z3, if_pos z4, if_pos hrow]) I r (Ex.refl I) (Op.refl r)
    · have hrow : ¬ row = [] := fun zz => z2 (by rw [zz]; simp)
      unfold J_X1_openClause_15
      refine ⟨fun z3 => ?_, fun z3 => ⟨fun z4 => ?_, fun z4 => ⟨fun z5 => j34w z4 hrow 1, fun z5 => absurd z5 (by decide)⟩⟩⟩
      · unfold J_X1_openClause_34 J_X1_openClause_66
        simp only [hK_p, hL_p, hI_p, hR_p, wI_p, cpI_p, hN_p, forall_eq, true_and, and_true, ne_eq, not_true_eq_false, not_false_eq_true, true_implies, false_implies, imp_false, implies_true, if_true, if_false, reduceCtorEq, d1, ho]
        refine ⟨fun z4 => ⟨fun _ => ?_, fun z5 => absurd z5 (by decide)⟩, fun z4 => absurd z4 (by omega)⟩
        exact kf 3 (by omega) (fun i xs => by rw [pc, if_pos z3, if_neg hrow]) I r (Ex.refl I) (Op.refl r)
      · exact kf 1 (by omega) (fun i xs => by rw [pc, if_neg z3, if_neg z4]) I r (Ex.refl I) (Op.refl r)
  · -- in the row
    subst hm
    simp only [if_true, if_neg (show ¬ (1 = 0) by decide)] at pc
    rw [if_pos rfl] at q3
    rw [ho]
    refine ⟨fun _ => c_goOn d1 d4 hr (by omega) (by omega) (fun hx hlt K hK xK => ?_) (fun hx hfull => ?_) (fun hx h59 hne => ?_) (fun hx hb => ?_), fun z2 => absurd (by decide) z2⟩
    · refine kg 1 (cur ++ [x - 48]) row ws (fun i xs => by rw [pc, if_pos hx, if_neg (by omega)]) K r ⟨⟨q1, q2, by rw [if_pos rfl]; simp; omega, q4.app (figs.one (by omega) (by omega))⟩, Or.inr (Or.inl ⟨rfl, ho, hK, ?_⟩)⟩ (xK.mono (fun a q z => by omega)) (Op.refl r)
      exact hw.kept q2.1 (xK _ _ (by omega)) (fun b b0 b1 => xK.row b (fun q => by omega))
    · exact kf 2 (by omega) (fun i xs => by rw [pc, if_pos hx, if_pos (by omega)]) I r (Ex.refl I) (Op.refl r)
    · exact kg 0 [] cur ws (fun i xs => by rw [pc, if_neg hx, if_pos ⟨h59, hne⟩]) I _ ⟨⟨q3, q2, by simp, figs.nil⟩, Or.inl ⟨rfl, upR_self _ _ _ _, hr, hw⟩⟩ (Ex.refl I) (Op.opn r 0)
    · exact kf 1 (by omega) (fun i xs => by rw [pc, if_neg hx, if_neg hb]) I r (Ex.refl I) (Op.refl r)
  · -- in a word
    subst hm
    simp only [if_neg (show ¬ (2 = 0) by decide), if_neg (show ¬ (2 = 1) by decide)] at pc
    rw [if_neg (by decide)] at q3
    obtain ⟨_, t2⟩ := sw.2.2.2.2 ws.length hl
    rw [show 7 + 4 + 2 * ws.length = 11 + 2 * ws.length by omega, show 7 + 5 + 2 * ws.length = 12 + 2 * ws.length by omega] at t2
    rw [ho]
    refine ⟨fun _ => c_goOn d1 t2 hc (by omega) (by omega) (fun hx hlt K hK xK => ?_) (fun hx hfull => ?_) (fun hx h59 hne => ?_) (fun hx hb => ?_), fun z2 => absurd (by omega) z2⟩
    · refine kg 2 (cur ++ [x - 48]) row ws (fun i xs => by rw [pc, if_pos hx, if_neg (by omega)]) K r ⟨⟨q1, q2, by rw [if_neg (by decide)]; simp; omega, q4.app (figs.one (by omega) (by omega))⟩, Or.inr (Or.inr ⟨rfl, hl, ho, hr.ex xK (by omega) (fun q => by omega), by rw [xK _ _ (by omega)]; exact hw3, fun w y hy => ?_, hK⟩)⟩ (xK.mono (fun a q z => by omega)) (Op.refl r)
      have hwl := (List.getElem?_eq_some_iff.mp hy).1
      exact (hws w y hy).ex xK (by omega) (fun q => by omega)
    · exact kf 2 (by omega) (fun i xs => by rw [pc, if_pos hx, if_pos (by omega)]) I r (Ex.refl I) (Op.refl r)
    · have cl : 1 ≤ cur.length := by
        cases cur with
        | nil => exact absurd rfl hne
        | cons a b => simp
      refine kg 0 [] row (ws ++ [cur]) (fun i xs => by rw [pc, if_neg hx, if_pos ⟨h59, hne⟩]) I _ ⟨⟨q1, q2.snoc hl cl q3 q4, by simp, figs.nil⟩, Or.inl ⟨rfl, upR_self _ _ _ _, hr, by rw [hw3]; simp, fun w y hy => ?_⟩⟩ (Ex.refl I) (Op.opn r 0)
      rw [List.getElem?_append] at hy
      split at hy
      · exact hws w y hy
      · rename_i hge
        have hwl := (List.getElem?_eq_some_iff.mp hy).1
        simp at hwl
        have hwe : w = ws.length := by omega
        subst hwe
        simp at hy
        subst hy
        rw [show 7 + 4 + 2 * ws.length = 11 + 2 * ws.length by omega, show 7 + 5 + 2 * ws.length = 12 + 2 * ws.length by omega]
        exact hc
    · exact kf 1 (by omega) (fun i xs => by rw [pc, if_neg hx, if_neg hb]) I r (Ex.refl I) (Op.refl r)
