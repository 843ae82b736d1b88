/-! MODEL, part 5: the simple calls -/
theorem List.getD_lt {xs : List Int} {k : Nat} {d e : Int} (h : k < xs.length) : xs.getD k d = xs.getD k e := by
  rw [List.getD_eq_getElem?_getD, List.getD_eq_getElem?_getD, List.getElem?_eq_getElem h]; rfl
theorem getD_ge {xs : List Int} {k : Nat} {d : Int} (h : xs.length ≤ k) : xs.getD k d = d := by
  rw [List.getD_eq_getElem?_getD, List.getElem?_eq_none h]; rfl
theorem m_feed {S : St} {I : Im} {r : Rs} {l : Int} {Q : Int → Hp → Prop} (m : Mst r) (hR : Rm S I) (w : WF S) (k : ∀ I', Rm (oFeed S l).2 I' → Ex aM I I' → Q (oFeed S l).1 (I', r)) : C_X12_feed 363 l (I, r) Q := by
  have m' := m
  unfold Mst at m'
  have hl := w.1.1
  obtain ⟨e1, e2⟩ := hR.1
  apply G_X12_feed
  unfold V_X12_feed
  unfold oFeed at k
  refine m_is (fun c => ⟨fun _ => ?_, fun z => absurd z (by decide)⟩) (fun c => ⟨fun z => absurd rfl z, fun _ => ?_⟩)
  · rw [if_pos c] at k
    simp only [hK_p, hL_p, hI_p, hR_p, wI_p, cpI_p, hN_p, forall_eq, true_and, and_true, ne_eq, not_true_eq_false, not_false_eq_true, true_implies, false_implies, imp_false, implies_true, if_true, if_false, reduceCtorEq, m', e1]
    refine ⟨fun c2 => ?_, fun c2 => ?_⟩
    · rw [if_neg (by omega)] at k
      refine ⟨⟨by omega, by omega⟩, ?_⟩
      have e3 : upI I 364 ((sTx S).length : Int) l 363 0 = (sTx S).length := by rw [upI_ne (by omega), e1]
      simp only [hK_p, hL_p, hI_p, hR_p, wI_p, cpI_p, hN_p, forall_eq, true_and, and_true, ne_eq, not_true_eq_false, not_false_eq_true, true_implies, false_implies, imp_false, implies_true, if_true, if_false, reduceCtorEq, m', e3, upI_self]
      refine ⟨⟨by omega, by omega⟩, ?_⟩
      have ex : Ex (fun a q => a = 364 ∨ (a = 363 ∧ q = 0)) I (upI (upI I 364 ((sTx S).length : Int) l) 363 0 ((sTx S).length + 1)) := fun a q hq => by rw [upI_ne (by omega), upI_ne (by omega)]
      refine k _ ?_ (ex.mono (fun a q h => by omega))
      obtain ⟨h1, h2, h3, h4, h5, h6, h7, h8, h9, h10⟩ := hR
      have rr0 : ∀ a : Nat, (368 ≤ a ∧ a ≤ 379) → (upI (upI I 364 ((sTx S).length : Int) l) 363 0 ((sTx S).length + 1)) a = I a := fun a ha => ex.row a (fun k => by omega)
      refine ⟨⟨by rw [upI_self]; simp [uTx, sTx], ?_⟩, (ex _ _ (by omega)).trans h2, (ex _ _ (by omega)).trans h3, h4.kept (ex _ _ (by omega)) (rr0 _ (by omega)) (rr0 _ (by omega)), by rw [rr0 370 (by omega)]; exact h5, h6.kept (ex _ _ (by omega)) (rr0 _ (by omega)), h7.kept (rr0 _ (by omega)) (rr0 _ (by omega)) (rr0 _ (by omega)), (ex _ _ (by omega)).trans h8, h9.kept (ex _ _ (by omega)) (rr0 _ (by omega)) (rr0 _ (by omega)) (rr0 _ (by omega)), h10.kept (ex _ _ (by omega)) (rr0 _ (by omega)) (rr0 _ (by omega))⟩
      refine e2.snoc (fun q q1 q2 => ?_) ?_
      · rw [upI_ne (by omega), upI_ne (by omega)]
      · rw [upI_ne (by omega), Int.zero_add, upI_self]
    · rw [if_pos (by omega)] at k
      exact k I hR (Ex.refl I)
  · rw [if_neg c] at k
    exact k I hR (Ex.refl I)
theorem m_fault {S : St} {I : Im} {r : Rs} {Q : Int → Hp → Prop} (m : Mst r) (hR : Rm S I) (k : Q (sFl S) (I, r)) : C_X12_fault 363 (I, r) Q := by
  have m' := m
  unfold Mst at m'
  apply G_X12_fault
  unfold V_X12_fault
  simp only [hK_p, hL_p, hI_p, hR_p, wI_p, cpI_p, hN_p, forall_eq, true_and, and_true, ne_eq, not_true_eq_false, not_false_eq_true, true_implies, false_implies, imp_false, implies_true, if_true, if_false, reduceCtorEq, m', hR.2.1]
  exact k
theorem m_figureAt {n : NS} {I : Im} {r : Rs} {p : Int} {Q : Int → Hp → Prop} (m : Mst r) (hn : NSm (I 370) 0 n) (ok : NSok n) (hp : 0 ≤ p) (k : Q (n.1.getD p.toNat (-1)) (I, r)) : C_X12_figureAt 363 p (I, r) Q := by
  have m' := m
  unfold Mst at m'
  have hl := ok.1
  apply G_X12_figureAt
  unfold V_X12_figureAt
  simp only [hK_p, hL_p, hI_p, hR_p, wI_p, cpI_p, hN_p, forall_eq, true_and, and_true, ne_eq, not_true_eq_false, not_false_eq_true, true_implies, false_implies, imp_false, implies_true, if_true, if_false, reduceCtorEq, m', hn.1]
  refine ⟨⟨by omega, by omega⟩, fun c => ?_, fun c => ⟨⟨by omega, by omega⟩, ⟨by omega, by omega⟩, ?_⟩⟩
  · rw [getD_ge (by omega)] at k
    exact k
  · have e := hn.2.2.2.1.at hp (by omega) (-1)
    rw [Int.zero_add] at e
    rw [e]
    exact k
theorem m_at {S : St} {I : Im} {r : Rs} {p : Int} {Q : Int → Hp → Prop} (m : Mst r) (hR : Rm S I) (w : WF S) (k : Q (oAt S p) (I, r)) : C_X12_at 363 p (I, r) Q := by
  apply G_X12_at
  unfold V_X12_at
  unfold oAt at k
  refine m_is (fun c => ⟨fun z => absurd z (by decide), fun _ => ⟨m.1, m_figureAt m hR.2.2.2.2.1 w.2.2.2.2.1 c.1 ?_⟩⟩) (fun c => ⟨fun _ => ?_, fun z => absurd rfl z⟩)
  · rw [if_pos c] at k; exact k
  · rw [if_neg c] at k; exact k
theorem m_isWord {S : St} {I : Im} {r : Rs} {x : Int} {Q : Int → Hp → Prop} (m : Mst r) (hR : Rm S I) (w : WF S) (k1 : 0 ≤ x ∧ x ≤ (sWl S).length - 1 → Q 1 (I, r)) (k0 : ¬ (0 ≤ x ∧ x ≤ (sWl S).length - 1) → Q 0 (I, r)) : C_X12_isWord 363 x (I, r) Q := by
  have m' := m
  unfold Mst at m'
  have hl := w.2.2.2.1.1
  apply G_X12_isWord
  unfold V_X12_isWord
  simp only [hK_p, hL_p, hI_p, hR_p, wI_p, cpI_p, hN_p, forall_eq, true_and, and_true, ne_eq, not_true_eq_false, not_false_eq_true, true_implies, false_implies, imp_false, implies_true, if_true, if_false, reduceCtorEq, m', hR.2.2.2.1.1]
  exact ⟨⟨by omega, by omega⟩, m_is (fun c => ⟨Or.inr rfl, k1 c⟩) (fun c => ⟨Or.inl rfl, k0 c⟩)⟩
/-- a word of the state, where it is one -/
theorem wl_at {wl : List (List Int)} {x : Int} (h : 0 ≤ x ∧ x ≤ (wl.length : Int) - 1) : wl[x.toNat]? = some (wl.getD x.toNat []) := by
  rw [List.getD_eq_getElem?_getD, List.getElem?_eq_getElem (show x.toNat < wl.length by omega)]; rfl
theorem wl_ok {wl : List (List Int)} (w : okWl wl) {x : Int} (h : 0 ≤ x ∧ x ≤ (wl.length : Int) - 1) : 1 ≤ (wl.getD x.toNat []).length ∧ (wl.getD x.toNat []).length ≤ 8 ∧ figs (wl.getD x.toNat []) := w.2 _ (List.mem_of_getElem? (wl_at h))
theorem mWl.at {I : Im} {wl : List (List Int)} (h : mWl I wl) {x : Int} (hx : 0 ≤ x ∧ x ≤ (wl.length : Int) - 1) : I 368 x = (wl.getD x.toNat []).length ∧ Seg (I 369) (8 * x) (wl.getD x.toNat []) := by
  have e := h.2 x.toNat _ (wl_at hx)
  rw [toNat_cast hx.1] at e
  exact e
theorem m_spelt {S : St} {I : Im} {r : Rs} {x q : Int} {Q : Int → Hp → Prop} (m : Mst r) (hR : Rm S I) (w : WF S) (k : Q (oSpelt S x q) (I, r)) : C_X12_spelt 363 x q (I, r) Q := by
  have m' := m
  unfold Mst at m'
  have hl := w.2.2.2.1.1
  apply G_X12_spelt
  unfold V_X12_spelt
  unfold oSpelt at k
  refine ⟨m.1, m_isWord m hR w (fun c => ⟨fun _ => ?_, fun z => absurd z (by decide)⟩) (fun c => ⟨fun z => absurd rfl z, fun _ => ?_⟩)⟩
  · rw [if_pos c] at k
    obtain ⟨e1, e2⟩ := hR.2.2.2.1.at c
    have okw := wl_ok w.2.2.2.1 c
    refine m_is (fun c2 => ⟨fun _ => ?_, fun z => absurd z (by decide)⟩) (fun c2 => ⟨fun z => absurd rfl z, fun _ => ?_⟩)
    · rw [if_pos c2] at k
      simp only [hK_p, hL_p, hI_p, hR_p, wI_p, cpI_p, hN_p, forall_eq, true_and, and_true, ne_eq, not_true_eq_false, not_false_eq_true, true_implies, false_implies, imp_false, implies_true, if_true, if_false, reduceCtorEq, m', e1]
      refine ⟨⟨by omega, by omega⟩, fun c3 => ?_, fun c3 => ⟨⟨by omega, by omega⟩, ⟨by omega, by omega⟩, ⟨by omega, by omega⟩, ?_⟩⟩
      · rw [getD_ge (by unfold wd; omega)] at k
        exact k
      · rw [e2.at c2.1 (by omega) (-1)]
        exact k
    · rw [if_neg c2] at k; exact k
  · rw [if_neg c] at k; exact k
theorem getD_map1 {q : List (Int × Int)} {i : Nat} (h : i < q.length) : (q.map (·.1)).getD i 0 = (q.getD i (0, 0)).1 := by
  simp [List.getD_eq_getElem?_getD, List.getElem?_eq_getElem h]
theorem getD_map2 {q : List (Int × Int)} {i : Nat} (h : i < q.length) : (q.map (·.2)).getD i 0 = (q.getD i (0, 0)).2 := by
  simp [List.getD_eq_getElem?_getD, List.getElem?_eq_getElem h]
theorem m_logged {S : St} {I : Im} {r : Rs} {i q : Int} {Q : Int → Hp → Prop} (m : Mst r) (hR : Rm S I) (w : WF S) (k : Q (oLogged S i q) (I, r)) : C_X12_logged 363 i q (I, r) Q := by
  have m' := m
  unfold Mst at m'
  have hl := w.2.2.2.2.1.2.2.2.1
  have hn := hR.2.2.2.2.1
  have e2 : I 370 2 = (sNw S).2.2.length := hn.2.2.1
  apply G_X12_logged
  unfold V_X12_logged
  unfold oLogged at k
  refine m_is (fun c => ⟨fun _ => ?_, fun z => absurd z (by decide)⟩) (fun c => ⟨fun z => absurd rfl z, fun _ => ?_⟩)
  · rw [if_pos c] at k
    simp only [hK_p, hL_p, hI_p, hR_p, wI_p, cpI_p, hN_p, forall_eq, true_and, and_true, ne_eq, not_true_eq_false, not_false_eq_true, true_implies, false_implies, imp_false, implies_true, if_true, if_false, reduceCtorEq, m', e2]
    refine ⟨⟨by omega, by omega⟩, ⟨by omega, by omega⟩, m_is (fun c2 => ⟨fun z => absurd z (by decide), fun _ => ?_⟩) (fun c2 => ⟨fun _ => ?_, fun z => absurd rfl z⟩)⟩
    · rw [if_pos c2] at k
      simp only [hK_p, hL_p, hI_p, hR_p, wI_p, cpI_p, hN_p, forall_eq, true_and, and_true, ne_eq, not_true_eq_false, not_false_eq_true, true_implies, false_implies, imp_false, implies_true, if_true, if_false, reduceCtorEq, m']
      refine ⟨fun c3 => ⟨⟨by omega, by omega⟩, ⟨by omega, by omega⟩, ?_⟩, fun c3 => ⟨⟨by omega, by omega⟩, ⟨by omega, by omega⟩, ?_⟩⟩
      · rw [if_neg c3] at k
        have e := hn.2.2.2.2.2.at c2.1 (by rw [List.length_map]; omega) 0
        rw [getD_map2 (by omega)] at e
        rw [Int.zero_add] at e
        rw [e]; exact k
      · rw [if_pos c3] at k
        have e := hn.2.2.2.2.1.at c2.1 (by rw [List.length_map]; omega) 0
        rw [getD_map1 (by omega)] at e
        rw [Int.zero_add] at e
        rw [e]; exact k
    · rw [if_neg c2] at k; exact k
  · rw [if_neg c] at k; exact k
theorem NSm.row {f g : Int → Int} {n : NS} {xs : List Int} (ok : NSok n) (h : NSm f 0 n) (e0 : g 0 = xs.length) (e1 : Seg g 3 xs) (e : ∀ k, (k = 1 ∨ k = 2 ∨ 63 ≤ k) → g k = f k) : NSm g 0 (xs, n.2) := by
  obtain ⟨h1, h2, h3, h4, h5, h6⟩ := h
  exact ⟨e0, (e _ (by omega)).trans h2, (e _ (by omega)).trans h3, e1, h5.congr (fun k a b => e k (by omega)), h6.congr (fun k a b => e k (by omega))⟩
/-- behind a note: the row becomes another -/
theorem Rm.deed {S : St} {I I' : Im} {xs : List Int} (w : WF S) (h : Rm (uNP S (sNw S) (push S)) I) (e : Ex (fun a k => (a = 370 ∧ k ≠ 1 ∧ k ≠ 2 ∧ k < 63) ∨ aSc a k) I I') (e0 : I' 370 0 = xs.length) (e1 : Seg (I' 370) 3 xs) : Rm (deed S xs) I' := by
  have hn : NSm (I' 370) 0 (xs, (sNw S).2) := NSm.row w.2.2.2.2.1 h.2.2.2.2.1 e0 e1 (fun k hk => e 370 k (by omega))
  exact h.now (e.mono (fun a q hq => by omega)) hn
theorem m_put {S : St} {I : Im} {r : Rs} {f : Int} {Q : Int → Hp → Prop} (m : Mst r) (hR : Rm S I) (w : WF S) (k : ∀ I', Rm (oPut S f).2 I' → Ex aM I I' → Q (oPut S f).1 (I', r)) : C_X12_put 363 f (I, r) Q := by
  have m' := m
  unfold Mst at m'
  have hl := w.2.2.2.2.1.1
  have e0 : I 370 0 = (sNw S).1.length := hR.2.2.2.2.1.1
  apply G_X12_put
  unfold V_X12_put
  unfold oPut at k
  refine m_is (fun c => ⟨fun _ => ?_, fun z => absurd z (by decide)⟩) (fun c => ⟨fun z => absurd rfl z, fun _ => ?_⟩)
  · rw [if_pos c] at k
    simp only [hK_p, hL_p, hI_p, hR_p, wI_p, cpI_p, hN_p, forall_eq, true_and, and_true, ne_eq, not_true_eq_false, not_false_eq_true, true_implies, false_implies, imp_false, implies_true, if_true, if_false, reduceCtorEq, m', e0]
    refine ⟨⟨by omega, by omega⟩, fun c2 => ?_, fun c2 => ?_⟩
    · rw [if_neg (by omega)] at k
      refine m_note m hR w (fun J hJ xJ => ?_)
      have f0 : J 370 0 = (sNw S).1.length := hJ.2.2.2.2.1.1
      have f1 : Seg (J 370) 3 (sNw S).1 := hJ.2.2.2.2.1.2.2.2.1
      simp only [hK_p, hL_p, hI_p, hR_p, wI_p, cpI_p, hN_p, forall_eq, true_and, and_true, ne_eq, not_true_eq_false, not_false_eq_true, true_implies, false_implies, imp_false, implies_true, if_true, if_false, reduceCtorEq, m', f0]
      refine ⟨⟨by omega, by omega⟩, ⟨by omega, by omega⟩, ⟨by omega, by omega⟩, ?_⟩
      have f2 : upI J 370 (3 + (sNw S).1.length) f 370 0 = (sNw S).1.length := by rw [upI_ne (by omega), f0]
      simp only [hK_p, hL_p, hI_p, hR_p, wI_p, cpI_p, hN_p, forall_eq, true_and, and_true, ne_eq, not_true_eq_false, not_false_eq_true, true_implies, false_implies, imp_false, implies_true, if_true, if_false, reduceCtorEq, m', f2, upI_self]
      refine ⟨⟨by omega, by omega⟩, ⟨by omega, by omega⟩, ⟨by omega, by omega⟩, ⟨by omega, by omega⟩, ?_⟩
      refine k _ (Rm.deed w hJ (fun a q hq => ?_) ?_ ?_) (fun a q hq => ?_)
      · rw [upI_ne (by omega), upI_ne (by omega)]
      · rw [upI_self]; simp
      · refine f1.snoc (fun q q1 q2 => ?_) ?_
        · rw [upI_ne (by omega), upI_ne (by omega)]
        · rw [upI_ne (by omega), upI_self]
      · rw [upI_ne (by omega), upI_ne (by omega), xJ a q (by omega)]
    · rw [if_pos (by omega)] at k
      exact k I hR (Ex.refl I)
  · rw [if_neg c] at k
    exact k I hR (Ex.refl I)
