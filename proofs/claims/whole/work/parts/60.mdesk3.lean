/-! MODEL, part 19: the desk is laid -/
theorem m_isRead {S : St} {I : Im} {r : Rs} {Q : Int → Hp → Prop} (mm : Mst r) (hR : Rm S I) (w : WF S)
    (k0 : ∀ I', bad I' (pzR S) → Ex aPz I I' → Q 0 (I', r))
    (k1 : ∀ I' row ws, rd I' row ws → pzR S = (0, -1, row, ws) → Ex aPz I I' → Q 1 (I', r)) : C_X12_isRead 363 (I, r) Q := by
  have m' := mm
  unfold Mst at m'
  have htx : (sTx S).length ≤ 240 := w.1.1
  apply G_X12_isRead
  unfold V_X12_isRead
  simp only [hK_p, hL_p, hI_p, hR_p, wI_p, cpI_p, hN_p, forall_eq, true_and, and_true, ne_eq, not_true_eq_false, not_false_eq_true, true_implies, false_implies, imp_false, implies_true, if_true, if_false, reduceCtorEq, mm.1]
  have h0 : tAt (upI (upI (upI (upI I 363 2 0) 363 4 0) 363 5 0) 363 6 0) (sTx S) 0 := by
    refine ⟨?_, ?_, ?_, Nat.zero_le _, htx, w.1.2⟩
    · rw [upI_ne (by omega), upI_ne (by omega), upI_ne (by omega), upI_ne (by omega)]; exact hR.1.1
    · refine hR.1.2.congr (fun q _ _ => ?_)
      rw [upI_ne (by omega), upI_ne (by omega), upI_ne (by omega), upI_ne (by omega)]
    · rw [upI_ne (by omega), upI_ne (by omega), upI_ne (by omega), upI_self]; rfl
  refine Lp_X12_isRead_22_ind (fun x1 h => ∃ J : Im, h = (J, r) ∧ Ex aPz I J ∧ ((x1 = 1 ∧ ∃ u row ws, tAt J (sTx S) u ∧ rd J row ws ∧ pzR S = pzA (sTx S) 0 [] row ws u) ∨ (x1 = 0 ∧ bad J (pzR S)))) (fun x1 h => if x1 = 0 then 0 else (sTx S).length + 1 - (hI h 363 2).toNat) ?_ _ _ ⟨_, rfl, fun a q hq => ?_, Or.inl ⟨rfl, 0, [], [], h0, ⟨⟨?_, Seg.nil _ _, by simp⟩, ?_, by simp, fun w x hx => by simp at hx⟩, rfl⟩⟩
  · intro P x1 h hI ih
    obtain ⟨J, rfl, xJ, hj⟩ := hI
    unfold BLp_X12_isRead_22
    rcases hj with ⟨z1, u, row, ws, tJ, rJ, pJ⟩ | ⟨z1, bJ⟩
    · subst z1
      refine ⟨fun z => absurd z (by decide), fun _ => ⟨mm.1, m_peek mm tJ (fun K tK pK xK => ?_) (fun K u' tK hu' hul hne hrg pK xK => ?_)⟩⟩
      · refine ⟨fun _ => ⟨Or.inr rfl, k1 K row ws ?_ (by rw [pJ, pK, pz_end, if_pos rfl]) (xJ.trans xK (fun _ _ z => z) (fun a q z => by omega))⟩, fun z => absurd (by decide) z⟩
        obtain ⟨⟨r1, r2, r3⟩, r4, r5, r6⟩ := rJ
        refine ⟨⟨by rw [xK _ _ (by omega), r1], by rw [xK.row 365 (fun q => by omega)]; exact r2, r3⟩, by rw [xK _ _ (by omega), r4], r5, fun w x hx => ?_⟩
        rw [xK.row 366 (fun q => by omega), xK.row 367 (fun q => by omega)]
        exact r6 w x hx
      · refine ⟨fun z => absurd z (by omega), fun _ => ⟨mm.1, ?_⟩⟩
        have rK' : rd K row ws := by
          obtain ⟨⟨r1, r2, r3⟩, r4, r5, r6⟩ := rJ
          refine ⟨⟨by rw [xK _ _ (by omega), r1], by rw [xK.row 365 (fun q => by omega)]; exact r2, r3⟩, by rw [xK _ _ (by omega), r4], r5, fun w x hx => ?_⟩
          rw [xK.row 366 (fun q => by omega), xK.row 367 (fun q => by omega)]
          exact r6 w x hx
        have xK' : Ex aPz I K := xJ.trans xK (fun _ _ z => z) (fun a q z => by omega)
        have p2 : pzR S = pzA (sTx S) 0 [] row ws u' := by rw [pJ, pK]
        have j2 : J 363 2 = u := tJ.2.2.1
        refine m_isClause mm tK hul hne rK' (fun L bL xL => ?_) (fun L u2 row' ws' tL hu2 rL' pL xL => ?_)
        · refine ih _ _ ⟨L, rfl, xK'.trans xL (fun _ _ z => z) (fun _ _ z => z), Or.inr ⟨rfl, by rw [p2]; exact bL⟩⟩ ?_
          rw [if_pos rfl, if_neg (by decide), hI_p, j2]
          omega
        · refine ih _ _ ⟨L, rfl, xK'.trans xL (fun _ _ z => z) (fun _ _ z => z), Or.inl ⟨rfl, u2, row', ws', tL, rL', by rw [p2]; exact pL⟩⟩ ?_
          have l2 : L 363 2 = u2 := tL.2.2.1
          have l3 := tL.2.2.2.1
          rw [if_neg (by decide), if_neg (by decide), hI_p, hI_p, j2, l2]
          omega
    · subst z1
      exact ⟨fun _ => ⟨Or.inl rfl, k0 J bJ xJ⟩, fun z => absurd rfl z⟩
  · rw [upI_ne (by omega), upI_ne (by omega), upI_ne (by omega), upI_ne (by omega)]
  · rw [upI_ne (by omega), upI_self]; rfl
  · rw [upI_self]; rfl
theorem m_desk {S : St} {I : Im} {r : Rs} {Q : Int → Hp → Prop} (m : Mst r) (hR : Rm S I) (w : WF S) (k : ∀ I', Rm (oDesk S).2 I' → Ex aM I I' → Q (oDesk S).1 (I', r)) : C_X12_desk 363 (I, r) Q := by
  have m' := m
  unfold Mst at m'
  unfold oDesk at k
  apply G_X12_desk
  unfold V_X12_desk
  refine ⟨m.1, m_isRead m hR w (fun J bJ xJ => ?_) (fun J row ws rJ pJ xJ => ?_)⟩
  · obtain ⟨b0, b1, b2⟩ := bJ
    rw [if_neg b0] at k
    unfold J_X12_desk_23
    have f2 : upI J 363 0 0 363 2 = (pzR S).2.1 := by rw [upI_ne (by omega), b2]
    have f4 : upI (upI J 363 0 0) 363 3 (pzR S).2.1 363 4 = (pzR S).1 := by rw [upI_ne (by omega), upI_ne (by omega), b1]
    have hz := (pzR_ok w).1
    simp only [hK_p, hL_p, hI_p, hR_p, wI_p, cpI_p, hN_p, forall_eq, true_and, and_true, ne_eq, not_true_eq_false, not_false_eq_true, true_implies, false_implies, imp_false, implies_true, if_true, if_false, reduceCtorEq, m.1, f2, f4]
    refine ⟨⟨by omega, by omega⟩, k _ ?_ (fun a q hq => by rw [upI_ne (by omega), upI_ne (by omega), xJ a q (by omega)])⟩
    have e : ∀ a q, ¬ aSc a q → ¬ (a = 363 ∧ (q = 0 ∨ q = 3)) → upI (upI J 363 0 0) 363 3 (pzR S).2.1 a q = I a q := fun a q h1 h2 => by rw [upI_ne (by omega), upI_ne (by omega), xJ a q (by omega)]
    have er : ∀ a, a = 364 ∨ (368 ≤ a ∧ a ≤ 379) → upI (upI J 363 0 0) 363 3 (pzR S).2.1 a = I a := fun a ha => funext fun q => e a q (by omega) (by omega)
    obtain ⟨h1, h2, h3, h4, h5, h6, h7, h8, h9, h10⟩ := hR
    refine ⟨⟨by rw [upI_ne (by omega), upI_self]; rfl, Seg.nil _ _⟩, by rw [upI_self], (e _ _ (by omega) (by omega)).trans h3, h4.kept (e _ _ (by omega) (by omega)) (er _ (by omega)) (er _ (by omega)), ?_, h6.kept (e _ _ (by omega) (by omega)) (er _ (by omega)), h7.kept (er _ (by omega)) (er _ (by omega)) (er _ (by omega)), (e _ _ (by omega) (by omega)).trans h8, h9.kept (e _ _ (by omega) (by omega)) (er _ (by omega)) (er _ (by omega)) (er _ (by omega)), h10.kept (e _ _ (by omega) (by omega)) (er _ (by omega)) (er _ (by omega))⟩
    rw [er 370 (by omega)]; exact h5
  · rw [pJ, if_pos rfl] at k
    dsimp only at k
    obtain ⟨⟨r1, r2, r3⟩, r4, r5, r6⟩ := rJ
    unfold J_X12_desk_23
    have f5 : upI (upI J 363 0 0) 363 3 (-1) 363 5 = row.length := by rw [upI_ne (by omega), upI_ne (by omega), r1]
    simp only [hK_p, hL_p, hI_p, hR_p, wI_p, cpI_p, hN_p, forall_eq, true_and, and_true, ne_eq, not_true_eq_false, not_false_eq_true, true_implies, false_implies, imp_false, implies_true, if_true, if_false, reduceCtorEq, m.1, f5]
    have lp : ∀ d : Int, d = (if row = [] then 0 else 1) → Lp_X12_desk_56 363 0 (upI (upI (upI J 363 0 0) 363 3 (-1)) 363 10 d, r) Q := by
      intro d hd
      refine Lp_X12_desk_56_ind (fun x2 h => ∃ (t : Nat) (K : Im), x2 = t ∧ t ≤ 103 ∧ h = (K, r) ∧ Ex (fun a q => a = 370) (upI (upI (upI J 363 0 0) 363 3 (-1)) 363 10 d) K ∧ ∀ j : Nat, j < t → K 370 j = 0) (fun x2 _ => 103 - x2.toNat) ?_ _ _ ⟨0, _, rfl, by omega, rfl, Ex.refl _, fun j hj => absurd hj (by omega)⟩
      intro P x2 h hI ih
      obtain ⟨t, K, rfl, t1, rfl, xK, hz⟩ := hI
      have kk : ∀ a q, a ≠ 370 → ¬ (a = 363 ∧ (q = 0 ∨ q = 3 ∨ q = 10)) → K a q = J a q := fun a q h1 h2 => by rw [xK a q h1, upI_ne (by omega), upI_ne (by omega), upI_ne (by omega)]
      have k5 : K 363 5 = row.length := by rw [kk _ _ (by omega) (by omega), r1]
      have k5' : upI K 370 0 (row.length : Int) 363 5 = row.length := by rw [upI_ne (by omega), k5]
      unfold BLp_X12_desk_56
      simp only [hK_p, hL_p, hI_p, hR_p, wI_p, cpI_p, hN_p, forall_eq, true_and, and_true, ne_eq, not_true_eq_false, not_false_eq_true, true_implies, false_implies, imp_false, implies_true, if_true, if_false, reduceCtorEq, m', k5, k5']
      refine ⟨fun c => ⟨by omega, ?_⟩, fun c => ⟨by omega, by omega, ih _ _ ⟨t + 1, _, by omega, by omega, rfl, fun a q hq => by rw [upI_ne (by omega), xK a q hq], fun j hj => ?_⟩ (by omega)⟩⟩
      · refine m_bring (by simp only [m']) (by simp only [m']) (by omega) (by simp only [m']; omega) (by omega) (by simp only [m']; omega) (by omega) (by simp only [m']; omega) (by simp only [m']; omega) (Or.inl (by omega)) ?_
        have g6 : cpy (upI K 370 0 (row.length : Int)) 365 0 370 3 (row.length : Int) 363 6 = ws.length := by rw [cpy_at, if_neg (by omega), upI_ne (by omega), kk _ _ (by omega) (by omega), r4]
        simp only [hK_p, hL_p, hI_p, hR_p, wI_p, cpI_p, hN_p, forall_eq, true_and, and_true, ne_eq, not_true_eq_false, not_false_eq_true, true_implies, false_implies, imp_false, implies_true, if_true, if_false, reduceCtorEq, m', g6]
        refine m_bring (by simp only [m']) (by simp only [m']) (by omega) (by simp only [m']; omega) (by omega) (by simp only [m']; omega) (by omega) (by simp only [m']; omega) (by simp only [m']; omega) (Or.inl (by omega)) ?_
        simp only [hK_p, hL_p, hI_p, hR_p, wI_p, cpI_p, hN_p, forall_eq, true_and, and_true, ne_eq, not_true_eq_false, not_false_eq_true, true_implies, false_implies, imp_false, implies_true, if_true, if_false, reduceCtorEq, m']
        refine m_bring (by simp only [m']) (by simp only [m']) (by omega) (by simp only [m']; omega) (by omega) (by simp only [m']; omega) (by omega) (by simp only [m']; omega) (by simp only [m']; omega) (Or.inl (by omega)) ?_
        simp only [hK_p, hL_p, hI_p, hR_p, wI_p, cpI_p, hN_p, forall_eq, true_and, and_true, ne_eq, not_true_eq_false, not_false_eq_true, true_implies, false_implies, imp_false, implies_true, if_true, if_false, reduceCtorEq, m']
        generalize hB : cpy (cpy (upI (cpy (upI K 370 0 (row.length : Int)) 365 0 370 3 (row.length : Int)) 363 11 (ws.length : Int)) 366 0 368 0 6) 367 0 369 0 48 = B
        have b369 : ∀ q, 0 ≤ q → q < 48 → B 369 q = J 367 q := fun q q0 q1 => by
          rw [← hB, cpy_at, if_pos (by omega), cpy_at, if_neg (by omega), upI_ne (by omega), cpy_at, if_neg (by omega), upI_ne (by omega), kk _ _ (by omega) (by omega)]; congr 1; omega
        have b368 : ∀ q, 0 ≤ q → q < 6 → B 368 q = J 366 q := fun q q0 q1 => by
          rw [← hB, cpy_at, if_neg (by omega), cpy_at, if_pos (by omega), upI_ne (by omega), cpy_at, if_neg (by omega), upI_ne (by omega), kk _ _ (by omega) (by omega)]; congr 1; omega
        have b370 : ∀ q, B 370 q = cpy (upI K 370 0 (row.length : Int)) 365 0 370 3 (row.length : Int) 370 q := fun q => by
          rw [← hB, cpy_at, if_neg (by omega), cpy_at, if_neg (by omega), upI_ne (by omega)]
        have b11 : B 363 11 = ws.length := by rw [← hB, cpy_at, if_neg (by omega), cpy_at, if_neg (by omega), upI_self]
        have bo : ∀ a q, ¬ (368 ≤ a ∧ a ≤ 370) → ¬ (a = 363 ∧ q = 11) → B a q = K a q := fun a q h1 h2 => by
          rw [← hB, cpy_at, if_neg (by omega), cpy_at, if_neg (by omega), upI_ne (by omega), cpy_at, if_neg (by omega), upI_ne (by omega)]
        generalize hF : upI (upI (upI (upI (upI B 363 16 0) 374 0 0) 374 1 0) 363 21 0) 363 25 0 = F
        have fo : ∀ a q, a ≠ 374 → ¬ (a = 363 ∧ (q = 16 ∨ q = 21 ∨ q = 25)) → F a q = B a q := fun a q h1 h2 => by
          rw [← hF, upI_ne (by omega), upI_ne (by omega), upI_ne (by omega), upI_ne (by omega), upI_ne (by omega)]
        have f5 : F 363 5 = row.length := by rw [fo _ _ (by omega) (by omega), bo _ _ (by omega) (by omega), k5]
        rw [f5]
        refine ⟨by simp, by simp, k F ⟨⟨?_, Seg.nil _ _⟩, ?_, ?_, ⟨?_, fun v x hx => ?_⟩, ⟨?_, ?_, ?_, ?_, Seg.nil _ _, Seg.nil _ _⟩, ⟨?_, (fun j n hj => by have hj : ([] : List NS)[j]? = some n := hj; simp at hj)⟩, fun i hi => ⟨fun _ => ?_, fun q hq => by cases hq⟩, ?_, ⟨?_, Seg.nil _ _, Seg.nil _ _, Seg.nil _ _⟩, ⟨?_, Seg.nil _ _, Seg.nil _ _⟩⟩ (fun a q hq => ?_)⟩
        · rw [fo _ _ (by omega) (by omega), bo _ _ (by omega) (by omega), xK _ _ (by omega), upI_ne (by omega), upI_ne (by omega), upI_self]; rfl
        · rw [fo _ _ (by omega) (by omega), bo _ _ (by omega) (by omega), xK _ _ (by omega), upI_ne (by omega), upI_self]; rfl
        · rw [fo _ _ (by omega) (by omega), bo _ _ (by omega) (by omega), xK _ _ (by omega), upI_self]; exact hd
        · rw [fo _ _ (by omega) (by omega), b11]; rfl
        · have hx : ws[v]? = some x := hx
          have hv := (List.getElem?_eq_some_iff.mp hx).1
          obtain ⟨⟨g1, g2⟩, g3⟩ := r6 v x hx
          refine ⟨by rw [fo _ _ (by omega) (by omega), b368 _ (by omega) (by omega), g1], g2.congr (fun q q0 q1 => ?_)⟩
          rw [fo _ _ (by omega) (by omega), b369 _ (by omega) (by omega)]
        · rw [fo _ _ (by omega) (by omega), b370, cpy_at, if_neg (by omega), upI_self]; rfl
        · rw [fo _ _ (by omega) (by omega), b370, cpy_at, if_neg (by omega), upI_ne (by omega)]; exact hz 1 (by omega)
        · rw [fo _ _ (by omega) (by omega), b370, cpy_at, if_neg (by omega), upI_ne (by omega)]; exact hz 2 (by omega)
        · refine r2.shift (fun q q0 q1 => ?_)
          have q1 : q < row.length := q1
          rw [fo _ _ (by omega) (by omega), b370, cpy_at, if_pos (by omega), upI_ne (by omega), kk _ _ (by omega) (by omega)]
          congr 1
          omega
        · rw [← hF, upI_ne (by omega), upI_ne (by omega), upI_ne (by omega), upI_ne (by omega), upI_self]; rfl
        · rcases (show i = 0 ∨ i = 1 by omega) with z | z
          · subst z
            rw [← hF, upI_ne (by omega), upI_ne (by omega), upI_ne (by omega)]; exact upI_self _ _ _ _
          · subst z
            rw [← hF, upI_ne (by omega), upI_ne (by omega)]; exact upI_self _ _ _ _
        · rw [fo _ _ (by omega) (by omega), bo _ _ (by omega) (by omega), kk _ _ (by omega) (by omega), xJ _ _ (by omega)]
          exact hR.2.2.2.2.2.2.2.1
        · rw [← hF, upI_ne (by omega), upI_self]; rfl
        · rw [← hF, upI_self]; rfl
        · rw [fo _ _ (by omega) (by omega), bo _ _ (by omega) (by omega), kk _ _ (by omega) (by omega), xJ _ _ (by omega)]
      · rcases (show j = t ∨ j < t by omega) with z | z
        · subst z; exact upI_self _ _ _ _
        · rw [upI_ne (by omega)]; exact hz j z
    refine ⟨fun z => absurd z (by decide), fun _ => ⟨fun _ => ⟨fun c => lp 0 ?_, fun c => lp 1 ?_⟩, fun z => absurd z (by decide)⟩⟩
    · rw [if_pos (List.length_eq_zero_iff.mp (by omega))]
    · rw [if_neg (fun z => c (by rw [z]; simp))]
