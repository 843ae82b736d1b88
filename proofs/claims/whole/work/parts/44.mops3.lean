/-! MODEL, part 7: more calls -/
theorem m_seed {S : St} {I : Im} {r : Rs} {v : Int} {Q : Int → Hp → Prop} (m : Mst r) (hR : Rm S I) (w : WF S) (k : ∀ I', Rm (oSeed S v).2 I' → Ex aM I I' → Q (oSeed S v).1 (I', r)) : C_X12_seed 363 v (I, r) Q := by
  have m' := m
  unfold Mst at m'
  apply G_X12_seed
  unfold V_X12_seed
  unfold oSeed at k
  simp only [hK_p, hL_p, hI_p, hR_p, wI_p, cpI_p, hN_p, forall_eq, true_and, and_true, ne_eq, not_true_eq_false, not_false_eq_true, true_implies, false_implies, imp_false, implies_true, if_true, if_false, reduceCtorEq, m', hR.2.2.2.2.2.2.2.1]
  refine ⟨fun c => ?_, fun c => ?_⟩
  · rw [if_neg (by omega)] at k
    have ex : Ex (fun a q => a = 363 ∧ q = 20) I (upI I 363 20 v) := Ex.up ⟨rfl, rfl⟩
    refine k _ ?_ (ex.mono (fun a q h => by omega))
    obtain ⟨h1, h2, h3, h4, h5, h6, h7, h8, h9, h10⟩ := hR
    have rr0 : ∀ a : Nat, a ≠ 363 → (upI I 363 20 v) a = I a := fun a ha => ex.row a (fun k => by omega)
    exact ⟨h1.kept (ex _ _ (by omega)) (rr0 _ (by omega)), (ex _ _ (by omega)).trans h2, (ex _ _ (by omega)).trans h3, h4.kept (ex _ _ (by omega)) (rr0 _ (by omega)) (rr0 _ (by omega)), by rw [rr0 370 (by omega)]; exact h5, h6.kept (ex _ _ (by omega)) (rr0 _ (by omega)), h7.kept (rr0 _ (by omega)) (rr0 _ (by omega)) (rr0 _ (by omega)), upI_self _ _ _ _, h9.kept (ex _ _ (by omega)) (rr0 _ (by omega)) (rr0 _ (by omega)) (rr0 _ (by omega)), h10.kept (ex _ _ (by omega)) (rr0 _ (by omega)) (rr0 _ (by omega))⟩
  · rw [if_pos (by omega)] at k
    exact k I hR (Ex.refl I)
/-- the heard and the book change -/
theorem Rm.hb {S : St} {I I' : Im} {hd : List (Int × Int × Int)} {bk : List (Int × Int)} (h : Rm S I) (e : Ex (fun a k => (375 ≤ a ∧ a ≤ 379) ∨ (a = 363 ∧ (k = 21 ∨ k = 25)) ∨ aSc a k) I I') (hh : mHd I' hd) (hb : mBk I' bk) : Rm (uHB S hd bk) I' := by
  obtain ⟨h1, h2, h3, h4, h5, h6, h7, h8, h9, h10⟩ := h
  have r : ∀ a : Nat, a = 364 ∨ (368 ≤ a ∧ a ≤ 374) → I' a = I a := fun a ha => e.row a (fun k => by omega)
  exact ⟨h1.kept (e _ _ (by omega)) (r _ (by omega)), (e _ _ (by omega)).trans h2, (e _ _ (by omega)).trans h3, h4.kept (e _ _ (by omega)) (r _ (by omega)) (r _ (by omega)), by rw [r 370 (by omega)]; exact h5, h6.kept (e _ _ (by omega)) (r _ (by omega)), h7.kept (r _ (by omega)) (r _ (by omega)) (r _ (by omega)), (e _ _ (by omega)).trans h8, hh, hb⟩
theorem m_tear {S : St} {I : Im} {r : Rs} {Q : Int → Hp → Prop} (m : Mst r) (hR : Rm S I) (w : WF S) (k : ∀ I', Rm (oTear S).2 I' → Ex aM I I' → Q (oTear S).1 (I', r)) : C_X12_tear 363 (I, r) Q := by
  have m' := m
  unfold Mst at m'
  have b1 := w.2.2.2.2.2.2.2.2.1.1
  have b2 := w.2.2.2.2.2.2.2.2.2.1
  apply G_X12_tear
  unfold V_X12_tear
  unfold oTear at k
  simp only [hK_p, hL_p, hI_p, hR_p, wI_p, cpI_p, hN_p, forall_eq, true_and, and_true, ne_eq, not_true_eq_false, not_false_eq_true, true_implies, false_implies, imp_false, implies_true, if_true, if_false, reduceCtorEq, m', hR.2.2.2.2.2.2.2.2.1.1, hR.2.2.2.2.2.2.2.2.2.1]
  refine ⟨⟨by omega, by omega⟩, ?_⟩
  have ex : Ex (fun a q => a = 363 ∧ (q = 21 ∨ q = 25)) I (upI (upI I 363 21 0) 363 25 0) := fun a q hq => by rw [upI_ne (by omega), upI_ne (by omega)]
  refine k _ (hR.hb (ex.mono (fun a q h => by omega)) ⟨?_, Seg.nil _ _, Seg.nil _ _, Seg.nil _ _⟩ ⟨?_, Seg.nil _ _, Seg.nil _ _⟩) (ex.mono (fun a q h => by omega))
  · rw [upI_ne (by omega), upI_self]; rfl
  · rw [upI_self]; rfl
theorem m_write {S : St} {I : Im} {r : Rs} {p f : Int} {Q : Int → Hp → Prop} (m : Mst r) (hR : Rm S I) (w : WF S) (k : ∀ I', Rm (oWrite S p f).2 I' → Ex aM I I' → Q (oWrite S p f).1 (I', r)) : C_X12_write 363 p f (I, r) Q := by
  have m' := m
  unfold Mst at m'
  have b2 := w.2.2.2.2.2.2.2.2.2.1
  obtain ⟨e1, e2, e3⟩ := hR.2.2.2.2.2.2.2.2.2
  apply G_X12_write
  unfold V_X12_write
  unfold oWrite at k
  refine m_is (fun c => ⟨fun z => absurd z (by decide), fun _ => ?_⟩) (fun c => ⟨fun _ => ?_, fun z => absurd rfl z⟩)
  · refine m_is (fun c2 => ⟨fun _ => ?_, fun z => absurd z (by decide)⟩) (fun c2 => ⟨fun z => absurd rfl z, fun _ => ?_⟩)
    · rw [if_pos ⟨c, c2⟩] at k
      simp only [hK_p, hL_p, hI_p, hR_p, wI_p, cpI_p, hN_p, forall_eq, true_and, and_true, ne_eq, not_true_eq_false, not_false_eq_true, true_implies, false_implies, imp_false, implies_true, if_true, if_false, reduceCtorEq, m', e1]
      refine ⟨fun c3 => ?_, fun c3 => ?_⟩
      · rw [if_neg (by omega)] at k
        generalize hn : (sBk S).length = n at *
        have f1 : upI I 378 (n : Int) p 363 25 = n := by rw [upI_ne (by omega), e1]
        have f2 : upI (upI I 378 (n : Int) p) 379 (n : Int) f 363 25 = n := by rw [upI_ne (by omega), f1]
        simp only [hK_p, hL_p, hI_p, hR_p, wI_p, cpI_p, hN_p, forall_eq, true_and, and_true, ne_eq, not_true_eq_false, not_false_eq_true, true_implies, false_implies, imp_false, implies_true, if_true, if_false, reduceCtorEq, m', f1, f2, upI_self]
        refine ⟨⟨by omega, by omega⟩, ⟨by omega, by omega⟩, ⟨by omega, by omega⟩, ?_⟩
        have ex : Ex (fun a q => a = 378 ∨ a = 379 ∨ (a = 363 ∧ q = 25)) I (upI (upI (upI I 378 (n : Int) p) 379 (n : Int) f) 363 25 (n + 1)) := fun a q hq => by rw [upI_ne (by omega), upI_ne (by omega), upI_ne (by omega)]
        refine k _ (hR.hb (ex.mono (fun a q h => by omega)) (hR.2.2.2.2.2.2.2.2.1.kept (ex _ _ (by omega)) (ex.row _ (fun k => by omega)) (ex.row _ (fun k => by omega)) (ex.row _ (fun k => by omega))) ⟨?_, ?_, ?_⟩) (ex.mono (fun a q h => by omega))
        · rw [upI_self]; simp [hn]
        · rw [List.map_append]
          refine e2.snoc (fun q q1 q2 => ?_) ?_
          · rw [List.length_map] at q2
            rw [upI_ne (by omega), upI_ne (by omega), upI_ne (by omega)]
          · rw [List.length_map, hn, upI_ne (by omega), upI_ne (by omega), Int.zero_add, upI_self]
        · rw [List.map_append]
          refine e3.snoc (fun q q1 q2 => ?_) ?_
          · rw [List.length_map] at q2
            rw [upI_ne (by omega), upI_ne (by omega), upI_ne (by omega)]
          · rw [List.length_map, hn, upI_ne (by omega), Int.zero_add, upI_self]
      · rw [if_pos (by omega)] at k
        exact k I hR (Ex.refl I)
    · rw [if_neg (fun z => c2 z.2)] at k
      exact k I hR (Ex.refl I)
  · rw [if_neg (fun z => c z.1)] at k
    exact k I hR (Ex.refl I)
theorem wrong_app (row : List Int) : ∀ (a b : List (Int × Int)) (i : Int), (∀ q ∈ a, row.getD q.1.toNat (-1) = q.2) → wrong row i (a ++ b) = wrong row (i + a.length) b
  | [], b, i, _ => by simp
  | q :: a, b, i, h => by
    have h1 := h q List.mem_cons_self
    show (if row.getD q.1.toNat (-1) ≠ q.2 then i else wrong row (i + 1) (a ++ b)) = _
    rw [if_neg (fun z => z h1), wrong_app row a b (i + 1) (fun x hx => h x (List.mem_cons_of_mem _ hx))]
    congr 1
    simp; omega
theorem m_judge {S : St} {I : Im} {r : Rs} {Q : Int → Hp → Prop} (m : Mst r) (hR : Rm S I) (w : WF S) (k : Q (oJudge S) (I, r)) : C_X12_judge 363 (I, r) Q := by
  have m' := m
  unfold Mst at m'
  obtain ⟨b1, b2⟩ := w.2.2.2.2.2.2.2.2.2
  obtain ⟨e1, e2, e3⟩ := hR.2.2.2.2.2.2.2.2.2
  apply G_X12_judge
  unfold V_X12_judge
  unfold oJudge at k
  refine Lp_X12_judge_2_ind (fun x h => ∃ t : Nat, x = t ∧ h = (I, r) ∧ t ≤ (sBk S).length ∧ wrong (sNw S).1 0 (sBk S) = wrong (sNw S).1 t ((sBk S).drop t)) (fun x _ => (sBk S).length - x.toNat) ?_ _ _ ⟨0, rfl, rfl, Nat.zero_le _, rfl⟩
  intro P x h hI ih
  obtain ⟨t, rfl, rfl, t1, t2⟩ := hI
  unfold BLp_X12_judge_2
  simp only [hK_p, hL_p, hI_p, hR_p, wI_p, cpI_p, hN_p, forall_eq, true_and, and_true, ne_eq, not_true_eq_false, not_false_eq_true, true_implies, false_implies, imp_false, implies_true, if_true, if_false, reduceCtorEq, m', e1]
  refine ⟨fun c => ?_, fun c => ?_⟩
  · rw [t2, List.drop_of_length_le (by omega)] at k
    exact k
  · have htl : t < (sBk S).length := by omega
    have g2 := e2.getD (k := t) (by rw [List.length_map]; omega) 0
    have g3 := e3.getD (k := t) (by rw [List.length_map]; omega) 0
    rw [getD_map1 htl, Int.zero_add] at g2
    rw [getD_map2 htl, Int.zero_add] at g3
    have hq : (sBk S).getD t (0, 0) = (sBk S)[t] := by simp [List.getD_eq_getElem?_getD, List.getElem?_eq_getElem htl]
    have hb := b2 _ (List.getElem_mem htl)
    rw [hq] at g2 g3
    rw [g2]
    refine ⟨⟨by omega, by omega⟩, ?_⟩
    refine m_figureAt m hR.2.2.2.2.1 w.2.2.2.2.1 hb.1.1 ?_
    simp only [hK_p, hL_p, hI_p, hR_p, wI_p, cpI_p, hN_p, forall_eq, true_and, and_true, ne_eq, not_true_eq_false, not_false_eq_true, true_implies, false_implies, imp_false, implies_true, if_true, if_false, reduceCtorEq, m', g3]
    rw [List.drop_eq_getElem_cons htl] at t2
    refine ⟨⟨by omega, by omega⟩, fun c2 => ⟨⟨by omega, by omega⟩, ih _ _ ⟨t + 1, by omega, rfl, by omega, ?_⟩ (by omega)⟩, fun c2 => ?_⟩
    · rw [t2]
      show (if _ ≠ _ then _ else wrong _ _ _) = _
      rw [if_neg (fun z => z c2)]
      rfl
    · rw [t2] at k
      have e : wrong (sNw S).1 t ((sBk S)[t] :: (sBk S).drop (t + 1)) = t := by
        show (if _ ≠ _ then _ else _) = _
        rw [if_pos c2]
      rw [e] at k
      exact k
theorem slip_ok {q : Int} (h : 0 ≤ q ∧ q ≤ 100) : ∀ n, 0 ≤ slip q n ∧ slip q n ≤ 1000000000
  | 0 => by simp [slip]
  | n + 1 => by
    obtain ⟨h1, h2⟩ := slip_ok h n
    show 0 ≤ slip q n * q / 100 ∧ slip q n * q / 100 ≤ 1000000000
    have h3 : 0 ≤ slip q n * q := Int.mul_nonneg h1 h.1
    have h4 : slip q n * q ≤ 1000000000 * 100 := Int.mul_le_mul h2 h.2 h.1 (by omega)
    omega
theorem m_noSlip {I : Im} {r : Rs} {n q : Int} {Q : Int → Hp → Prop} (k : Q (oNoSlip n q) (I, r)) : C_X12_noSlip 363 n q (I, r) Q := by
  apply G_X12_noSlip
  unfold V_X12_noSlip
  unfold oNoSlip at k
  refine m_is (fun c => ⟨fun z => absurd z (by decide), fun _ => ?_⟩) (fun c => ⟨fun _ => ?_, fun z => absurd rfl z⟩)
  · refine m_is (fun c2 => ⟨fun _ => ?_, fun z => absurd z (by decide)⟩) (fun c2 => ⟨fun z => absurd rfl z, fun _ => ?_⟩)
    · rw [if_pos ⟨c, c2⟩] at k
      refine Lp_X12_noSlip_30_ind (fun x3 x5 h => ∃ t : Nat, x5 = t ∧ x3 = slip q t ∧ h = (I, r) ∧ t ≤ n.toNat) (fun x3 x5 h => n.toNat - x5.toNat) ?_ _ _ _ ⟨0, rfl, rfl, rfl, Nat.zero_le _⟩
      intro P x3 x5 h hI ih
      obtain ⟨t, rfl, rfl, rfl, ht⟩ := hI
      have hs := slip_ok c2 t
      have h3 : 0 ≤ slip q t * q := Int.mul_nonneg hs.1 c2.1
      have h4 : slip q t * q ≤ 1000000000 * 100 := Int.mul_le_mul hs.2 c2.2 c2.1 (by omega)
      unfold BLp_X12_noSlip_30
      refine ⟨fun c3 => ⟨⟨by omega, by omega⟩, ?_⟩, fun c3 => ⟨⟨by omega, by omega⟩, ⟨by omega, by omega⟩, fun x e => ⟨⟨by omega, by omega⟩, ih _ _ _ ⟨t + 1, by omega, ?_, rfl, by omega⟩ (by omega)⟩⟩⟩
      · have : t = n.toNat := by omega
        rw [this]; exact k
      · rw [e]; rfl
    · rw [if_neg (fun z => c2 z.2)] at k; exact k
  · rw [if_neg (fun z => c z.1)] at k; exact k
theorem m_hear {S : St} {I : Im} {r : Rs} {x y b : Int} {Q : Int → Hp → Prop} (m : Mst r) (hR : Rm S I) (w : WF S) (hb : b = 0 ∨ b = 1) (k : ∀ I', Rm (oHear S x y b).2 I' → Ex aM I I' → Q (oHear S x y b).1 (I', r)) : C_X12_hear 363 x y b (I, r) Q := by
  have m' := m
  unfold Mst at m'
  have b1 := w.2.2.2.2.2.2.2.2.1.1
  obtain ⟨e1, e2, e3, e4⟩ := hR.2.2.2.2.2.2.2.2.1
  apply G_X12_hear
  unfold V_X12_hear
  unfold oHear at k
  refine ⟨m.1, m_isWord m hR w (fun c => ⟨fun z => absurd z (by decide), fun _ => ⟨m.1, ?_⟩⟩) (fun c => ⟨fun _ => ?_, fun z => absurd rfl z⟩)⟩
  · refine m_isWord m hR w (fun c2 => ⟨fun _ => ?_, fun z => absurd z (by decide)⟩) (fun c2 => ⟨fun z => absurd rfl z, fun _ => ?_⟩)
    · rw [if_pos ⟨c, c2⟩] at k
      simp only [hK_p, hL_p, hI_p, hR_p, wI_p, cpI_p, hN_p, forall_eq, true_and, and_true, ne_eq, not_true_eq_false, not_false_eq_true, true_implies, false_implies, imp_false, implies_true, if_true, if_false, reduceCtorEq, m', e1]
      refine ⟨fun c3 => ?_, fun c3 => ?_⟩
      · rw [if_neg (by omega)] at k
        generalize hn : (sHd S).length = n at *
        have f1 : upI I 375 (n : Int) x 363 21 = n := by rw [upI_ne (by omega), e1]
        have f2 : upI (upI I 375 (n : Int) x) 376 (n : Int) y 363 21 = n := by rw [upI_ne (by omega), f1]
        have f3 : upI (upI (upI I 375 (n : Int) x) 376 (n : Int) y) 377 (n : Int) b 363 21 = n := by rw [upI_ne (by omega), f2]
        simp only [hK_p, hL_p, hI_p, hR_p, wI_p, cpI_p, hN_p, forall_eq, true_and, and_true, ne_eq, not_true_eq_false, not_false_eq_true, true_implies, false_implies, imp_false, implies_true, if_true, if_false, reduceCtorEq, m', f1, f2, f3, upI_self]
        refine ⟨⟨by omega, by omega⟩, ⟨by omega, by omega⟩, ⟨by omega, by omega, hb⟩, ⟨by omega, by omega⟩, ?_⟩
        have ex : Ex (fun a q => a = 375 ∨ a = 376 ∨ a = 377 ∨ (a = 363 ∧ q = 21)) I (upI (upI (upI (upI I 375 (n : Int) x) 376 (n : Int) y) 377 (n : Int) b) 363 21 (n + 1)) := fun a q hq => by rw [upI_ne (by omega), upI_ne (by omega), upI_ne (by omega), upI_ne (by omega)]
        refine k _ (hR.hb (ex.mono (fun a q h => by omega)) ⟨?_, ?_, ?_, ?_⟩ (hR.2.2.2.2.2.2.2.2.2.kept (ex _ _ (by omega)) (ex.row _ (fun k => by omega)) (ex.row _ (fun k => by omega)))) (ex.mono (fun a q h => by omega))
        · rw [upI_self]; simp [hn]
        · rw [List.map_append]
          refine e2.snoc (fun q q1 q2 => ?_) ?_
          · rw [List.length_map] at q2
            rw [upI_ne (by omega), upI_ne (by omega), upI_ne (by omega), upI_ne (by omega)]
          · rw [List.length_map, hn, upI_ne (by omega), upI_ne (by omega), upI_ne (by omega), Int.zero_add, upI_self]
        · rw [List.map_append]
          refine e3.snoc (fun q q1 q2 => ?_) ?_
          · rw [List.length_map] at q2
            rw [upI_ne (by omega), upI_ne (by omega), upI_ne (by omega), upI_ne (by omega)]
          · rw [List.length_map, hn, upI_ne (by omega), upI_ne (by omega), Int.zero_add, upI_self]
        · rw [List.map_append]
          refine e4.snoc (fun q q1 q2 => ?_) ?_
          · rw [List.length_map] at q2
            rw [upI_ne (by omega), upI_ne (by omega), upI_ne (by omega), upI_ne (by omega)]
          · rw [List.length_map, hn, upI_ne (by omega), Int.zero_add, upI_self]
      · rw [if_pos (by omega)] at k
        exact k I hR (Ex.refl I)
    · rw [if_neg (fun z => c2 z.2)] at k
      exact k I hR (Ex.refl I)
  · rw [if_neg (fun z => c z.1)] at k
    exact k I hR (Ex.refl I)
theorem m_undo {S : St} {I : Im} {r : Rs} {n : Int} {Q : Int → Hp → Prop} (m : Mst r) (hR : Rm S I) (w : WF S) (k : ∀ I', Rm (oUndo S n).2 I' → Ex aM I I' → Q (oUndo S n).1 (I', r)) : C_X12_undo 363 n (I, r) Q := by
  have m' := m
  unfold Mst at m'
  obtain ⟨b1, b2⟩ := w.2.2.2.2.2.1
  obtain ⟨e1, e2⟩ := hR.2.2.2.2.2.1
  apply G_X12_undo
  unfold V_X12_undo
  unfold oUndo at k
  refine m_is (fun c => ⟨fun _ => ?_, fun z => absurd z (by decide)⟩) (fun c => ⟨fun z => absurd rfl z, fun _ => ?_⟩)
  · rw [if_pos c] at k
    simp only [hK_p, hL_p, hI_p, hR_p, wI_p, cpI_p, hN_p, forall_eq, true_and, and_true, ne_eq, not_true_eq_false, not_false_eq_true, true_implies, false_implies, imp_false, implies_true, if_true, if_false, reduceCtorEq, m', e1]
    refine ⟨fun c2 => ?_, fun c2 => ?_⟩
    · rw [if_neg (by omega)] at k
      simp only [hK_p, hL_p, hI_p, hR_p, wI_p, cpI_p, hN_p, forall_eq, true_and, and_true, ne_eq, not_true_eq_false, not_false_eq_true, true_implies, false_implies, imp_false, implies_true, if_true, if_false, reduceCtorEq, m', upI_self]
      refine ⟨⟨by omega, by omega⟩, ⟨by omega, by omega⟩, ?_⟩
      refine m_bring (by simp only [m']) (by simp only [m']) (by omega) (by simp only [m']; omega) (by omega) (by simp only [m']; omega) (by omega) (by simp only [m']; omega) (by simp only [m']; omega) (Or.inl (by omega)) ?_
      have hj : n.toNat - 1 < (sPa S).length := by omega
      have hg : (sPa S)[n.toNat - 1]? = some ((sPa S).getD (n.toNat - 1) ([], 0, [])) := by
        rw [List.getD_eq_getElem?_getD, List.getElem?_eq_getElem hj]; rfl
      generalize (sPa S).getD (n.toNat - 1) ([], 0, []) = nn at *
      have hnn := e2 _ _ hg
      have okn := b2 nn (List.mem_of_getElem? hg)
      have ex : Ex (fun a q => a = 370 ∨ (a = 363 ∧ q = 16)) I (cpy (upI I 363 16 ((sPa S).length - n)) 371 (103 * ((sPa S).length - n)) 370 0 103) := fun a q hq => by
        by_cases hc : a = 370
        · exact absurd (Or.inl hc) hq
        · rw [cpy_at, if_neg (by omega), upI_ne (by omega)]
      have hns : NSm ((cpy (upI I 363 16 ((sPa S).length - n)) 371 (103 * ((sPa S).length - n)) 370 0 103) 370) 0 nn := by
        refine hnn.shift okn (fun q q0 q1 => ?_)
        rw [cpy_at, if_pos (by omega), upI_ne (by omega)]
        congr 1
        omega
      simp only [hK_p, hL_p, hI_p, hR_p, wI_p, cpI_p, hN_p, forall_eq, true_and, and_true, ne_eq, not_true_eq_false, not_false_eq_true, true_implies, false_implies, imp_false, implies_true, if_true, if_false, reduceCtorEq, m']
      refine ⟨⟨by omega, by omega⟩, ?_⟩
      rw [hns.1]
      refine k _ ?_ (ex.mono (fun a q h => by omega))
      obtain ⟨h1, h2, h3, h4, h5, h6, h7, h8, h9, h10⟩ := hR
      have rr0 : ∀ a : Nat, a ≠ 363 ∧ a ≠ 370 → (cpy (upI I 363 16 ((sPa S).length - n)) 371 (103 * ((sPa S).length - n)) 370 0 103) a = I a := fun a ha => ex.row a (fun k => by omega)
      refine ⟨h1.kept (ex _ _ (by omega)) (rr0 _ (by omega)), (ex _ _ (by omega)).trans h2, (ex _ _ (by omega)).trans h3, h4.kept (ex _ _ (by omega)) (rr0 _ (by omega)) (rr0 _ (by omega)), hns, ⟨?_, fun j nj hj2 => ?_⟩, h7.kept (rr0 _ (by omega)) (rr0 _ (by omega)) (rr0 _ (by omega)), (ex _ _ (by omega)).trans h8, h9.kept (ex _ _ (by omega)) (rr0 _ (by omega)) (rr0 _ (by omega)) (rr0 _ (by omega)), h10.kept (ex _ _ (by omega)) (rr0 _ (by omega)) (rr0 _ (by omega))⟩
      · rw [cpy_at, if_neg (by omega), upI_self]
        show _ = (((sPa S).drop n.toNat).length : Int)
        rw [List.length_drop]; omega
      · have hj2 : ((sPa S).drop n.toNat)[j]? = some nj := hj2
        rw [List.getElem?_drop] at hj2
        have hl2 := (List.getElem?_eq_some_iff.mp hj2).1
        have okj := b2 nj (List.mem_of_getElem? hj2)
        rw [rr0 371 (by omega)]
        refine (e2 _ _ hj2).shift okj (fun q q0 q1 => ?_)
        show I 371 (103 * ((((sPa S).drop n.toNat).length : Int) - 1 - j) + q) = _
        rw [List.length_drop]
        congr 1
        omega
    · rw [if_pos (by omega)] at k
      exact k I hR (Ex.refl I)
  · rw [if_neg c] at k
    exact k I hR (Ex.refl I)
