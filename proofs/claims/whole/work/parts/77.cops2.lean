/-! COMPONENT, part 7: its calls, on -/
theorem q_seed {S : St} {I : Im} {r : Rs} {v : Int} {Q : Int → Hp → Prop} (c : Cs r) (hR : Rc S I) (w : WF S) (k : ∀ I', Rc (oSeed S v).2 I' → Ex aC I I' → Q (oSeed S v).1 (I', r)) : C_X11_seed 2 v (I, r) Q := by
  have ca := c.1
  unfold sRa at ca
  unfold oSeed at k
  have e0 := hR.2.2.2.2.2.2.2.1
  apply G_X11_seed
  unfold V_X11_seed
  simp only [hK_p, hL_p, hI_p, hR_p, wI_p, cpI_p, hN_p, forall_eq, true_and, and_true, ne_eq, not_true_eq_false, not_false_eq_true, true_implies, false_implies, imp_false, implies_true, if_true, if_false, reduceCtorEq, ca, e0]
  refine ⟨fun z => ?_, fun z => ?_⟩
  · rw [if_neg (by omega)] at k
    have ex : ∀ a q, ¬ (a = 2 ∧ q = 11) → upI I 2 11 v a q = I a q := fun a q hq => upI_ne hq
    have er : ∀ a, a ≠ 2 → upI I 2 11 v a = I a := fun a h1 => funext fun q => ex a q (by omega)
    obtain ⟨h1, h2, h3, h4, h5, h6, h7, h8, h9, h10⟩ := hR
    exact k _ ⟨h1.kept (ex _ _ (by omega)) (er _ (by omega)), (ex _ _ (by omega)).trans h2, (ex _ _ (by omega)).trans h3, h4.kept w.2.2.2.1.1 (ex _ _ (by omega)) (fun b _ _ => er b (by omega)), h5.kept (fun b _ _ => er b (by omega)), h6.kept (fun b _ _ => er b (by omega)), h7.kept (fun b _ _ => er b (by omega)), upI_self _ _ _ _, h9.kept (ex _ _ (by omega)) (er _ (by omega)) (er _ (by omega)) (er _ (by omega)), h10.kept (ex _ _ (by omega)) (er _ (by omega)) (er _ (by omega))⟩ (fun a q hq => ex a q (by omega))
  · rw [if_pos (by omega)] at k; exact k I hR (Ex.refl I)
theorem Rc.hb {S : St} {I I' : Im} {hd : List (Int × Int × Int)} {bk : List (Int × Int)} (h : Rc S I) (w : okWl (sWl S)) (e : Ex (fun a _ => 210 ≤ a ∧ a < 230) I I') (h1 : cHd I' hd) (h2 : cBk I' bk) : Rc (uHB S hd bk) I' := by
  obtain ⟨g1, g2, g3, g4, g5, g6, g7, g8, g9, g10⟩ := h
  have r : ∀ a : Nat, a < 210 → I' a = I a := fun a ha => e.row a (fun k => by omega)
  exact ⟨g1.kept (e _ _ (by omega)) (r _ (by omega)), (e _ _ (by omega)).trans g2, (e _ _ (by omega)).trans g3, g4.kept w.1 (e _ _ (by omega)) (fun b b0 b1 => r b (by omega)), g5.kept (fun b b0 b1 => r b (by omega)), g6.kept (fun b b0 b1 => r b (by omega)), g7.kept (fun b b0 b1 => r b (by omega)), (e _ _ (by omega)).trans g8, h1, h2⟩
theorem q_tear {S : St} {I : Im} {r : Rs} {Q : Int → Hp → Prop} (c : Cs r) (hR : Rc S I) (w : WF S) (k : ∀ I', Rc (oTear S).2 I' → Ex aC I I' → Q (oTear S).1 (I', r)) : C_X11_tear 2 (I, r) Q := by
  have ca := c.1
  unfold sRa at ca
  have e1 := hR.2.2.2.2.2.2.2.2.1.1
  have e2 := hR.2.2.2.2.2.2.2.2.2.1
  have l1 := w.2.2.2.2.2.2.2.2.1.1
  have l2 := w.2.2.2.2.2.2.2.2.2.1
  unfold oTear at k
  apply G_X11_tear
  unfold V_X11_tear
  simp only [hK_p, hL_p, hI_p, hR_p, wI_p, cpI_p, hN_p, forall_eq, true_and, and_true, ne_eq, not_true_eq_false, not_false_eq_true, true_implies, false_implies, imp_false, implies_true, if_true, if_false, reduceCtorEq, ca, c.2.2.2.2.2.2.2.1.1, c.2.2.2.2.2.2.2.2.1.1, e1, e2]
  have ex : Ex (fun a _ => 210 ≤ a ∧ a < 230) I (upI (upI I 210 4 0) 227 2 0) := fun a q hq => by rw [upI_ne (by omega), upI_ne (by omega)]
  refine ⟨by omega, k _ (hR.hb w.2.2.2.1 ex ⟨?_, Seg.nil _ _, Seg.nil _ _, Seg.nil _ _⟩ ⟨?_, Seg.nil _ _, Seg.nil _ _⟩) (ex.mono (fun a q z => by omega))⟩
  · rw [upI_ne (by omega), upI_self]; rfl
  · rw [upI_self]; rfl
theorem q_write {S : St} {I : Im} {r : Rs} {p f : Int} {Q : Int → Hp → Prop} (c : Cs r) (hR : Rc S I) (w : WF S) (k : ∀ I', Rc (oWrite S p f).2 I' → Ex aC I I' → Q (oWrite S p f).1 (I', r)) : C_X11_write 2 p f (I, r) Q := by
  have ca := c.1
  unfold sRa at ca
  obtain ⟨b1, ⟨b2, b3, b4⟩, b5, b6, b7⟩ := c.2.2.2.2.2.2.2.2.1
  obtain ⟨e1, e2, e3⟩ := hR.2.2.2.2.2.2.2.2.2
  have l2 := w.2.2.2.2.2.2.2.2.2.1
  have hH := hR.2.2.2.2.2.2.2.2.1
  unfold oWrite at k
  have j22 : (0 ≤ p ∧ p ≤ 59) → (-1 ≤ f ∧ f ≤ 9) → J_X11_write_22 2 p f (I, r) Q := by
    intro hp hf
    rw [if_pos ⟨hp, hf⟩] at k
    unfold J_X11_write_22
    simp only [hK_p, hL_p, hI_p, hR_p, wI_p, cpI_p, hN_p, forall_eq, true_and, and_true, ne_eq, not_true_eq_false, not_false_eq_true, true_implies, false_implies, imp_false, implies_true, if_true, if_false, reduceCtorEq, ca, b1]
    apply G_X0_append
    unfold V_X0_append
    have f1 : upI I 228 ((sBk S).length : Int) p 227 2 = (sBk S).length := by rw [upI_ne (by omega), e1]
    have f2 : upI (upI I 228 ((sBk S).length : Int) p) 229 ((sBk S).length : Int) f 227 2 = (sBk S).length := by rw [upI_ne (by omega), f1]
    simp only [hK_p, hL_p, hI_p, hR_p, wI_p, cpI_p, hN_p, forall_eq, true_and, and_true, ne_eq, not_true_eq_false, not_false_eq_true, true_implies, false_implies, imp_false, implies_true, if_true, if_false, reduceCtorEq, ca, b1, b2, b3, b4, b5, b6, b7, e1, f1, f2, upI_self]
    refine ⟨fun z3 => ⟨by omega, by omega, by omega, by omega, by omega, fun z4 => absurd z4 (by decide), fun _ => ?_⟩, fun z3 => ?_⟩
    · rw [if_neg (by omega)] at k
      generalize hF : upI (upI (upI I 228 ((sBk S).length : Int) p) 229 ((sBk S).length : Int) f) 227 2 (((sBk S).length : Int) + 1) = F
      have ex : Ex (fun a _ => 227 ≤ a ∧ a < 230) I F := fun a q hq => by rw [← hF, upI_ne (by omega), upI_ne (by omega), upI_ne (by omega)]
      refine k F (hR.hb w.2.2.2.1 (ex.mono (fun a q z => by omega)) (hH.kept (ex _ _ (by omega)) (ex.row _ (fun q => by omega)) (ex.row _ (fun q => by omega)) (ex.row _ (fun q => by omega))) ⟨?_, ?_, ?_⟩) (ex.mono (fun a q z => by omega))
      · rw [← hF, upI_self]; simp
      · rw [List.map_append]
        refine e2.snoc (fun q q0 q1 => ?_) ?_
        · rw [List.length_map] at q1
          rw [← hF, upI_ne (by omega), upI_ne (by omega), upI_ne (by omega)]
        · rw [List.length_map, Int.zero_add, ← hF, upI_ne (by omega), upI_ne (by omega), upI_self]
      · rw [List.map_append]
        refine e3.snoc (fun q q0 q1 => ?_) ?_
        · rw [List.length_map] at q1
          rw [← hF, upI_ne (by omega), upI_ne (by omega), upI_ne (by omega)]
        · rw [List.length_map, Int.zero_add, ← hF, upI_ne (by omega), upI_self]
    · rw [if_pos (by omega)] at k; exact k I hR (Ex.refl I)
  apply G_X11_write
  unfold V_X11_write
  refine c_isPlace (fun z => ⟨fun z2 => absurd z2 (by decide), fun _ => ⟨fun z2 => j22 z (by omega), fun z2 => ?_⟩⟩) (fun z => ⟨fun _ => ?_, fun z2 => absurd rfl z2⟩)
  · refine c_isFigure (fun z3 => ⟨fun _ => j22 z (by omega), fun z4 => absurd z4 (by decide)⟩) (fun z3 => ⟨fun z4 => absurd rfl z4, fun _ => ?_⟩)
    rw [if_neg (by omega)] at k; exact k I hR (Ex.refl I)
  · rw [if_neg (by omega)] at k; exact k I hR (Ex.refl I)
theorem q_judge {S : St} {I : Im} {r : Rs} {Q : Int → Hp → Prop} (c : Cs r) (hR : Rc S I) (w : WF S) (k : Q (oJudge S) (I, r)) : C_X11_judge 2 (I, r) Q := by
  have ca := c.1
  unfold sRa at ca
  obtain ⟨b1, ⟨b2, b3, b4⟩, b5, b6, b7⟩ := c.2.2.2.2.2.2.2.2.1
  obtain ⟨s1, s2, s3, _⟩ := c.2.2.2.2.1
  obtain ⟨e1, e2, e3⟩ := hR.2.2.2.2.2.2.2.2.2
  obtain ⟨l2, l3⟩ := w.2.2.2.2.2.2.2.2.2
  have hl := w.2.2.2.2.1.1
  unfold oJudge at k
  apply G_X11_judge
  unfold V_X11_judge
  simp only [hK_p, hL_p, hI_p, hR_p, wI_p, cpI_p, hN_p, forall_eq, true_and, and_true, ne_eq, not_true_eq_false, not_false_eq_true, true_implies, false_implies, imp_false, implies_true, if_true, if_false, reduceCtorEq, ca, b1, s1, s2]
  apply G_X0_firstWrong
  unfold V_X0_firstWrong
  refine Lp_X0_firstWrong_2_ind (fun x h => ∃ u : Nat, x = u ∧ u ≤ (sBk S).length ∧ h = (I, r) ∧ wrong (sNw S).1 0 (sBk S) = wrong (sNw S).1 u ((sBk S).drop u)) (fun x _ => (sBk S).length - x.toNat) ?_ _ _ ⟨0, rfl, Nat.zero_le _, rfl, rfl⟩
  intro P x h hI ih
  obtain ⟨u, rfl, u1, rfl, u2⟩ := hI
  unfold BLp_X0_firstWrong_2
  simp only [hK_p, hL_p, hI_p, hR_p, wI_p, cpI_p, hN_p, forall_eq, true_and, and_true, ne_eq, not_true_eq_false, not_false_eq_true, true_implies, false_implies, imp_false, implies_true, if_true, if_false, reduceCtorEq, b1, b2, b3, b4, e1, s3.1]
  refine ⟨fun z => ?_, fun z => ⟨by omega, ?_⟩⟩
  · rw [List.drop_eq_nil_of_le (by omega)] at u2
    rw [u2] at k; exact k
  · have hu : u < (sBk S).length := by omega
    have a1 : I 228 u = (sBk S)[u].1 := by have := e2.get (k := u) (by simpa using hu); rw [Int.zero_add] at this; rw [this]; simp
    have a2 : I 229 u = (sBk S)[u].2 := by have := e3.get (k := u) (by simpa using hu); rw [Int.zero_add] at this; rw [this]; simp
    have rg := l3 _ (List.getElem_mem hu)
    rw [List.drop_eq_getElem_cons hu] at u2
    have u2 : wrong (sNw S).1 0 (sBk S) = if (sNw S).1.getD (sBk S)[u].1.toNat (-1) ≠ (sBk S)[u].2 then (u : Int) else wrong (sNw S).1 ((u : Int) + 1) ((sBk S).drop (u + 1)) := u2
    rw [a1]
    refine c_get s3 hR.2.2.2.2.1.1 (by omega) ?_
    rw [if_pos (by omega)]
    simp only [hK_p, hL_p, hI_p, hR_p, wI_p, cpI_p, hN_p, forall_eq, true_and, and_true, ne_eq, not_true_eq_false, not_false_eq_true, true_implies, false_implies, imp_false, implies_true, if_true, if_false, reduceCtorEq, b1, b5, b6, b7, a2]
    refine ⟨by omega, fun z2 => ?_, fun z2 => ?_⟩
    · rw [if_neg (fun z3 => z3 z2)] at u2
      exact ⟨by omega, ih _ _ ⟨u + 1, by omega, by omega, rfl, by rw [u2]; congr 1⟩ (by omega)⟩
    · rw [if_pos z2] at u2
      rw [u2] at k; exact k
theorem q_noSlip {S : St} {I : Im} {r : Rs} {n q : Int} {Q : Int → Hp → Prop} (k : Q (oNoSlip n q) (I, r)) : C_X11_noSlip 2 n q (I, r) Q := by
  unfold oNoSlip at k
  apply G_X11_noSlip
  unfold V_X11_noSlip
  refine ⟨fun z => ?_, fun z => ⟨fun z2 => ?_, fun z2 => ⟨fun z3 => ?_, fun z3 => ⟨fun z4 => ?_, fun z4 => ?_⟩⟩⟩⟩
  · rw [if_neg (by omega)] at k; exact k
  · rw [if_neg (by omega)] at k; exact k
  · rw [if_neg (by omega)] at k; exact k
  · rw [if_pos (by omega)] at k
    have rng : ∀ u : Nat, 0 ≤ slip q u ∧ slip q u ≤ 1000000000 := by
      intro u
      induction u with
      | zero => exact ⟨(by decide : (0 : Int) ≤ 1000000000), (by decide : (1000000000 : Int) ≤ 1000000000)⟩
      | succ u ih =>
        show 0 ≤ slip q u * q / 100 ∧ slip q u * q / 100 ≤ 1000000000
        have h1 : 0 ≤ slip q u * q := Int.mul_nonneg ih.1 (by omega)
        have h2 : slip q u * q ≤ 1000000000 * 100 := Int.mul_le_mul ih.2 z4 (by omega) (by decide)
        omega
    refine Lp_X11_noSlip_30_ind (fun x3 x5 h => ∃ u : Nat, x5 = u ∧ (u : Int) ≤ n ∧ h = (I, r) ∧ x3 = slip q u) (fun _ x5 _ => n.toNat - x5.toNat) ?_ _ _ _ ⟨0, rfl, by omega, rfl, rfl⟩
    intro P x3 x5 h hI ih
    obtain ⟨u, rfl, u1, rfl, rfl⟩ := hI
    have rg := rng u
    unfold BLp_X11_noSlip_30
    simp only [forall_eq]
    refine ⟨fun c1 => ?_, fun c1 => ?_⟩
    · have : n.toNat = u := by omega
      rw [this] at k
      exact ⟨by omega, k⟩
    · have h1 : 0 ≤ slip q u * q := Int.mul_nonneg rg.1 (by omega)
      have h2 : slip q u * q ≤ 1000000000 * 100 := Int.mul_le_mul rg.2 z4 (by omega) (by decide)
      exact ⟨by omega, by omega, by omega, ih _ _ _ ⟨u + 1, by omega, by omega, rfl, rfl⟩ (by omega)⟩
  · rw [if_neg (by omega)] at k; exact k
theorem q_hear {S : St} {I : Im} {r : Rs} {x y b : Int} {Q : Int → Hp → Prop} (c : Cs r) (hR : Rc S I) (w : WF S) (hb : b = 0 ∨ b = 1) (k : ∀ I', Rc (oHear S x y b).2 I' → Ex aC I I' → Q (oHear S x y b).1 (I', r)) : C_X11_hear 2 x y b (I, r) Q := by
  have ca := c.1
  unfold sRa at ca
  obtain ⟨b1, ⟨b2, b3, b4⟩, ⟨b5, b6, b7⟩, ⟨b8, b9, b10⟩, _⟩ := c.2.2.2.2.2.2.2.1
  obtain ⟨e1, e2, e3, e4⟩ := hR.2.2.2.2.2.2.2.2.1
  have l2 := w.2.2.2.2.2.2.2.2.1.1
  have hB := hR.2.2.2.2.2.2.2.2.2
  unfold oHear at k
  apply G_X11_hear
  unfold V_X11_hear
  simp only [hK_p, hL_p, hI_p, hR_p, wI_p, cpI_p, hN_p, forall_eq, true_and, and_true, ne_eq, not_true_eq_false, not_false_eq_true, true_implies, false_implies, imp_false, implies_true, if_true, if_false, reduceCtorEq, ca, c.2.2.2.1.1]
  refine c_wget c.2.2.2.1 hR.2.2.2.1 w.2.2.2.1 (fun z b' d hb' hd hs hg => ⟨fun z2 => absurd z2 (by omega), fun _ => ?_⟩) (fun z => ⟨fun _ => ?_, fun z2 => absurd rfl z2⟩)
  · simp only [hK_p, hL_p, hI_p, hR_p, wI_p, cpI_p, hN_p, forall_eq, true_and, and_true, ne_eq, not_true_eq_false, not_false_eq_true, true_implies, false_implies, imp_false, implies_true, if_true, if_false, reduceCtorEq, ca, c.2.2.2.1.1]
    refine c_wget c.2.2.2.1 hR.2.2.2.1 w.2.2.2.1 (fun y1 b'' d' hb'' hd' hs' hg' => ⟨fun _ => ?_, fun z2 => absurd (by omega) z2⟩) (fun y1 => ⟨fun z2 => absurd rfl z2, fun _ => ?_⟩)
    · rw [if_pos ⟨z, y1⟩] at k
      simp only [hK_p, hL_p, hI_p, hR_p, wI_p, cpI_p, hN_p, forall_eq, true_and, and_true, ne_eq, not_true_eq_false, not_false_eq_true, true_implies, false_implies, imp_false, implies_true, if_true, if_false, reduceCtorEq, ca, b1]
      apply G_X3_append
      unfold V_X3_append
      have f1 : upI I 211 ((sHd S).length : Int) x 210 4 = (sHd S).length := by rw [upI_ne (by omega), e1]
      have f2 : upI (upI I 211 ((sHd S).length : Int) x) 212 ((sHd S).length : Int) y 210 4 = (sHd S).length := by rw [upI_ne (by omega), f1]
      have f3 : upI (upI (upI I 211 ((sHd S).length : Int) x) 212 ((sHd S).length : Int) y) 213 ((sHd S).length : Int) b 210 4 = (sHd S).length := by rw [upI_ne (by omega), f2]
      simp only [hK_p, hL_p, hI_p, hR_p, wI_p, cpI_p, hN_p, forall_eq, true_and, and_true, ne_eq, not_true_eq_false, not_false_eq_true, true_implies, false_implies, imp_false, implies_true, if_true, if_false, reduceCtorEq, ca, b1, b2, b3, b4, b5, b6, b7, b8, b9, b10, e1, f1, f2, f3, upI_self]
      refine ⟨fun z3 => ⟨by omega, by omega, ⟨by omega, by omega, hb⟩, by omega, fun z4 => absurd z4 (by decide), fun _ => ?_⟩, fun z3 => ?_⟩
      · rw [if_neg (by omega)] at k
        generalize hF : upI (upI (upI (upI I 211 ((sHd S).length : Int) x) 212 ((sHd S).length : Int) y) 213 ((sHd S).length : Int) b) 210 4 (((sHd S).length : Int) + 1) = F
        have ex : Ex (fun a _ => 210 ≤ a ∧ a < 214) I F := fun a q hq => by rw [← hF, upI_ne (by omega), upI_ne (by omega), upI_ne (by omega), upI_ne (by omega)]
        refine k F (hR.hb w.2.2.2.1 (ex.mono (fun a q z => by omega)) ⟨?_, ?_, ?_, ?_⟩ (hB.kept (ex _ _ (by omega)) (ex.row _ (fun q => by omega)) (ex.row _ (fun q => by omega)))) (ex.mono (fun a q z => by omega))
        · rw [← hF, upI_self]; simp
        · rw [List.map_append]
          refine e2.snoc (fun q q0 q1 => ?_) ?_
          · rw [List.length_map] at q1
            rw [← hF, upI_ne (by omega), upI_ne (by omega), upI_ne (by omega), upI_ne (by omega)]
          · rw [List.length_map, Int.zero_add, ← hF, upI_ne (by omega), upI_ne (by omega), upI_ne (by omega), upI_self]
        · rw [List.map_append]
          refine e3.snoc (fun q q0 q1 => ?_) ?_
          · rw [List.length_map] at q1
            rw [← hF, upI_ne (by omega), upI_ne (by omega), upI_ne (by omega), upI_ne (by omega)]
          · rw [List.length_map, Int.zero_add, ← hF, upI_ne (by omega), upI_ne (by omega), upI_self]
        · rw [List.map_append]
          refine e4.snoc (fun q q0 q1 => ?_) ?_
          · rw [List.length_map] at q1
            rw [← hF, upI_ne (by omega), upI_ne (by omega), upI_ne (by omega), upI_ne (by omega)]
          · rw [List.length_map, Int.zero_add, ← hF, upI_ne (by omega), upI_self]
      · rw [if_pos (by omega)] at k; exact k I hR (Ex.refl I)
    · rw [if_neg (fun z3 => y1 z3.2)] at k; exact k I hR (Ex.refl I)
  · rw [if_neg (fun z3 => z z3.1)] at k; exact k I hR (Ex.refl I)
theorem q_undo {S : St} {I : Im} {r : Rs} {n : Int} {Q : Int → Hp → Prop} (c : Cs r) (hR : Rc S I) (w : WF S) (k : ∀ I', Rc (oUndo S n).2 I' → Ex aC I I' → Q (oUndo S n).1 (I', r)) : C_X11_undo 2 n (I, r) Q := by
  have ca := c.1
  unfold sRa at ca
  obtain ⟨s1, s2, s3, _⟩ := c.2.2.2.2.1
  obtain ⟨p1, ⟨p2, p3, p4⟩, p5⟩ := c.2.2.2.2.2.1
  obtain ⟨nx, n0, n1, n2, n3⟩ := hR.2.2.2.2.2.1
  obtain ⟨kp1, kp2⟩ := w.2.2.2.2.2.1
  have okw := w.2.2.2.1
  unfold oUndo at k
  apply G_X11_undo
  unfold V_X11_undo
  simp only [hK_p, hL_p, hI_p, hR_p, wI_p, cpI_p, hN_p, forall_eq, true_and, and_true, ne_eq, not_true_eq_false, not_false_eq_true, true_implies, false_implies, imp_false, implies_true, if_true, if_false, reduceCtorEq, ca, p1, n2]
  refine ⟨fun z => ?_, fun z => ⟨fun z2 => ⟨fun z3 => ?_, fun z3 => ?_⟩, fun z2 => ?_⟩⟩
  · rw [if_neg (by omega)] at k; exact k I hR (Ex.refl I)
  · rw [if_pos (by omega), if_neg (by omega)] at k
    have hj : (sPa S)[n.toNat - 1]? = some ((sPa S).getD (n.toNat - 1) ([], 0, [])) := by
      rw [List.getD_eq_getElem?_getD, List.getElem?_eq_getElem (show n.toNat - 1 < (sPa S).length by omega)]; rfl
    have hst := n3 _ _ hj
    have okn := kp2 _ (List.mem_of_getElem? hj)
    generalize (sPa S).getD (n.toNat - 1) ([], 0, []) = nn at *
    have ix : ((nx + 29 - (n.toNat - 1)) % 30 : Nat) = (nx + 30 - n.toNat) % 30 := by congr 1; omega
    rw [ix] at hst
    have il : (nx + 30 - n.toNat) % 30 < 30 := Nat.mod_lt _ (by omega)
    obtain ⟨q1, q2⟩ := p5 _ il
    apply G_X6_restore
    unfold V_X6_restore
    have ei : ((nx : Int) + 30 - n) % 30 = (((nx + 30 - n.toNat) % 30 : Nat) : Int) := by omega
    generalize (nx + 30 - n.toNat) % 30 = ni at *
    have f2 : upI I 44 1 (ni : Int) 44 2 = (sPa S).length := by rw [upI_ne (by omega), n2]
    have f1 : upI (upI I 44 1 (ni : Int)) 44 2 (((sPa S).length : Int) - n) 44 1 = ni := by rw [upI_ne (by omega), upI_self]
    simp only [hK_p, hL_p, hI_p, hR_p, wI_p, cpI_p, hN_p, forall_eq, true_and, and_true, ne_eq, not_true_eq_false, not_false_eq_true, true_implies, false_implies, imp_false, implies_true, if_true, if_false, reduceCtorEq, p1, p2, p3, p4, n1, n2, ei, f1, f2, q1, s1]
    refine ⟨fun z4 => absurd z4 (by omega), fun _ => ⟨fun _ => ⟨by omega, by omega, by omega, by omega, by omega, ?_⟩, fun z4 => absurd z3 z4⟩⟩
    generalize hJ : upI (upI I 44 1 (ni : Int)) 44 2 (((sPa S).length : Int) - n) = J
    have jo : ∀ a q, ¬ (a = 44 ∧ (q = 1 ∨ q = 2)) → J a q = I a q := fun a q hq => by rw [← hJ, upI_ne (by omega), upI_ne (by omega)]
    refine c_copySt c.2.2.2.2.1 q2 (by omega) (hst.kept (fun x x0 x1 => funext fun q => jo x q (by omega))) okn (fun K hK xK => ?_)
    simp only [hK_p, hL_p, hI_p, hR_p, wI_p, cpI_p, hN_p, forall_eq, true_and, and_true, ne_eq, not_true_eq_false, not_false_eq_true, true_implies, false_implies, imp_false, implies_true, if_true, if_false, reduceCtorEq, ca, s1, s2, s3.1, hK.1.1]
    have pj : cPa J ((sPa S).drop n.toNat) := by
      refine ⟨ni, il, by rw [← hJ]; exact f1, by rw [← hJ, upI_self, List.length_drop]; omega, fun j m hm => ?_⟩
      rw [List.getElem?_drop] at hm
      have hm2 := (List.getElem?_eq_some_iff.mp hm).1
      have e : (ni + 29 - j) % 30 = (nx + 29 - (n.toNat + j)) % 30 := by omega
      rw [e]
      refine (n3 _ _ hm).kept (fun x x0 x1 => funext fun q => jo x q ?_)
      omega
    have hRJ : Rc (uNP S (sNw S) ((sPa S).drop n.toNat)) J := hR.past okw (fun a q hq => jo a q (by omega)) pj
    exact k K (Rc.now (n := nn) hRJ okw (xK.mono (fun a q z => by omega)) hK) (fun a q hq => by rw [xK a q (by omega), jo a q (by omega)])
  · rw [if_pos (by omega), if_pos (by omega)] at k; exact k I hR (Ex.refl I)
  · rw [if_neg (by omega)] at k; exact k I hR (Ex.refl I)
