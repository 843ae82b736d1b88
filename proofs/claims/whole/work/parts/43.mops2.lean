/-! MODEL, part 6: more calls -/
theorem Seg.append {f : Int → Int} {off : Int} {xs ys : List Int} (h1 : Seg f off xs) (h2 : Seg f (off + xs.length) ys) : Seg f off (xs ++ ys) := by
  intro k v hv
  by_cases hk : k < xs.length
  · rw [List.getElem?_append_left hk] at hv
    exact h1 k v hv
  · rw [List.getElem?_append_right (by omega)] at hv
    have := h2 (k - xs.length) v hv
    rw [← this]
    congr 1
    omega
theorem m_word {S : St} {I : Im} {r : Rs} {x : Int} {Q : Int → Hp → Prop} (m : Mst r) (hR : Rm S I) (w : WF S) (k : ∀ I', Rm (oWord S x).2 I' → Ex aM I I' → Q (oWord S x).1 (I', r)) : C_X12_word 363 x (I, r) Q := by
  have m' := m
  unfold Mst at m'
  have hl := w.2.2.2.2.1.1
  have hwl := w.2.2.2.1.1
  have e0 : I 370 0 = (sNw S).1.length := hR.2.2.2.2.1.1
  apply G_X12_word
  unfold V_X12_word
  unfold oWord at k
  refine ⟨m.1, m_isWord m hR w (fun c => ⟨fun _ => ?_, fun z => absurd z (by decide)⟩) (fun c => ⟨fun z => absurd rfl z, fun _ => ?_⟩)⟩
  · rw [if_pos c] at k
    obtain ⟨e1, e2⟩ := hR.2.2.2.1.at c
    have okw := wl_ok w.2.2.2.1 c
    rw [show (sWl S).getD x.toNat [] = wd S x from rfl] at e1 e2 okw
    simp only [hK_p, hL_p, hI_p, hR_p, wI_p, cpI_p, hN_p, forall_eq, true_and, and_true, ne_eq, not_true_eq_false, not_false_eq_true, true_implies, false_implies, imp_false, implies_true, if_true, if_false, reduceCtorEq, m', e0, e1]
    refine ⟨⟨by omega, by omega⟩, ⟨by omega, by omega⟩, ⟨by omega, by omega⟩, fun c2 => ?_, fun c2 => ?_⟩
    · rw [if_neg (by omega)] at k
      refine m_note m hR w (fun J hJ xJ => ?_)
      have f0 : J 370 0 = (sNw S).1.length := hJ.2.2.2.2.1.1
      have f1 : Seg (J 370) 3 (sNw S).1 := hJ.2.2.2.2.1.2.2.2.1
      obtain ⟨g1, g2⟩ := hJ.2.2.2.1.at c
      rw [show (sWl (uNP S (sNw S) (push S))).getD x.toNat [] = wd S x from rfl] at g1 g2
      simp only [hK_p, hL_p, hI_p, hR_p, wI_p, cpI_p, hN_p, forall_eq, true_and, and_true, ne_eq, not_true_eq_false, not_false_eq_true, true_implies, false_implies, imp_false, implies_true, if_true, if_false, reduceCtorEq, m', f0, g1]
      refine ⟨⟨by omega, by omega⟩, ⟨by omega, by omega⟩, ⟨by omega, by omega⟩, ⟨by omega, by omega⟩, ?_⟩
      refine m_bring (by simp only [m']) (by simp only [m']) (by omega) (by simp only [m']; omega) (by omega) (by simp only [m']; omega) (by omega) (by simp only [m']; omega) (by simp only [m']; omega) (Or.inl (by omega)) ?_
      have f2 : cpy J 369 (8 * x) 370 (3 + (sNw S).1.length) (wd S x).length 370 0 = (sNw S).1.length := by rw [cpy_at, if_neg (by omega), f0]
      have f3 : cpy J 369 (8 * x) 370 (3 + (sNw S).1.length) (wd S x).length 368 x = (wd S x).length := by rw [cpy_at, if_neg (by omega), g1]
      simp only [hK_p, hL_p, hI_p, hR_p, wI_p, cpI_p, hN_p, forall_eq, true_and, and_true, ne_eq, not_true_eq_false, not_false_eq_true, true_implies, false_implies, imp_false, implies_true, if_true, if_false, reduceCtorEq, m', f2, f3, upI_self]
      refine ⟨⟨by omega, by omega⟩, ⟨by omega, by omega⟩, ⟨by omega, by omega⟩, ⟨by omega, by omega⟩, ⟨by omega, by omega⟩, ?_⟩
      refine k _ (Rm.deed w hJ (fun a q hq => ?_) ?_ ?_) (fun a q hq => ?_)
      · rw [upI_ne (by omega), cpy_at, if_neg (by omega)]
      · rw [upI_self]; simp
      · refine Seg.append (f1.congr (fun q q1 q2 => ?_)) (g2.shift (fun q q1 q2 => ?_))
        · rw [upI_ne (by omega), cpy_at, if_neg (by omega)]
        · rw [upI_ne (by omega), cpy_at, if_pos (by omega)]
          congr 1
          omega
      · rw [upI_ne (by omega), cpy_at, if_neg (by omega), xJ a q (by omega)]
    · rw [if_pos (by omega)] at k
      exact k I hR (Ex.refl I)
  · rw [if_neg c] at k
    exact k I hR (Ex.refl I)
theorem Seg.set {f g : Int → Int} {off v : Int} {xs : List Int} {i : Nat} (h : Seg f off xs) (e : ∀ k : Int, off ≤ k → k < off + xs.length → k ≠ off + i → g k = f k) (hv : g (off + i) = v) : Seg g off (xs.set i v) := by
  intro k u hu
  rw [List.getElem?_set] at hu
  split at hu
  · rename_i hik
    split at hu
    · cases hu
      rw [← hik]
      exact hv
    · cases hu
  · rename_i hik
    have hk : k < xs.length := (List.getElem?_eq_some_iff.mp hu).1
    rw [e (off + k) (by omega) (by omega) (by omega)]
    exact h k u hu
theorem m_change {S : St} {I : Im} {r : Rs} {p f : Int} {Q : Int → Hp → Prop} (m : Mst r) (hR : Rm S I) (w : WF S) (k : ∀ I', Rm (oChange S p f).2 I' → Ex aM I I' → Q (oChange S p f).1 (I', r)) : C_X12_change 363 p f (I, r) Q := by
  have m' := m
  unfold Mst at m'
  have hl := w.2.2.2.2.1.1
  have e0 : I 370 0 = (sNw S).1.length := hR.2.2.2.2.1.1
  apply G_X12_change
  unfold V_X12_change
  unfold oChange at k
  simp only [hK_p, hL_p, hI_p, hR_p, wI_p, cpI_p, hN_p, forall_eq, true_and, and_true, ne_eq, not_true_eq_false, not_false_eq_true, true_implies, false_implies, imp_false, implies_true, if_true, if_false, reduceCtorEq, m', e0]
  refine ⟨⟨by omega, by omega⟩, ⟨by omega, by omega⟩, m_is (fun c => ⟨fun _ => ?_, fun z => absurd z (by decide)⟩) (fun c => ⟨fun z => absurd rfl z, fun _ => ?_⟩)⟩
  · rw [if_pos c] at k
    refine m_is (fun c2 => ⟨fun _ => ⟨m.1, ?_⟩, fun z => absurd z (by decide)⟩) (fun c2 => ⟨fun z => absurd rfl z, fun _ => ?_⟩)
    · rw [if_pos c2] at k
      refine m_note m hR w (fun J hJ xJ => ?_)
      have f0 : J 370 0 = (sNw S).1.length := hJ.2.2.2.2.1.1
      have f1 : Seg (J 370) 3 (sNw S).1 := hJ.2.2.2.2.1.2.2.2.1
      have f2 := f1.at c.1 (by omega) 0
      simp only [hK_p, hL_p, hI_p, hR_p, wI_p, cpI_p, hN_p, forall_eq, true_and, and_true, ne_eq, not_true_eq_false, not_false_eq_true, true_implies, false_implies, imp_false, implies_true, if_true, if_false, reduceCtorEq, m', f2]
      refine ⟨⟨by omega, by omega⟩, ⟨by omega, by omega⟩, ⟨by omega, by omega⟩, ⟨by omega, by omega⟩, ?_⟩
      refine k _ (Rm.deed w hJ (fun a q hq => ?_) ?_ ?_) (fun a q hq => ?_)
      · rw [upI_ne (by omega)]
      · rw [upI_ne (by omega), f0]; simp
      · refine f1.set (fun q q1 q2 q3 => ?_) ?_
        · rw [upI_ne (by omega)]
        · rw [toNat_cast c.1, upI_self]
      · rw [upI_ne (by omega), xJ a q (by omega)]
    · rw [if_neg c2] at k
      exact k I hR (Ex.refl I)
  · rw [if_neg c] at k
    exact k I hR (Ex.refl I)
theorem m_drop {S : St} {I : Im} {r : Rs} {n : Int} {Q : Int → Hp → Prop} (m : Mst r) (hR : Rm S I) (w : WF S) (k : ∀ I', Rm (oDrop S n).2 I' → Ex aM I I' → Q (oDrop S n).1 (I', r)) : C_X12_drop 363 n (I, r) Q := by
  have m' := m
  unfold Mst at m'
  have hl := w.2.2.2.2.1.1
  have e0 : I 370 0 = (sNw S).1.length := hR.2.2.2.2.1.1
  apply G_X12_drop
  unfold V_X12_drop
  unfold oDrop at k
  simp only [hK_p, hL_p, hI_p, hR_p, wI_p, cpI_p, hN_p, forall_eq, true_and, and_true, ne_eq, not_true_eq_false, not_false_eq_true, true_implies, false_implies, imp_false, implies_true, if_true, if_false, reduceCtorEq, m', e0]
  refine ⟨⟨by omega, by omega⟩, m_is (fun c => ⟨fun _ => ⟨m.1, ?_⟩, fun z => absurd z (by decide)⟩) (fun c => ⟨fun z => absurd rfl z, fun _ => ?_⟩)⟩
  · rw [if_pos c] at k
    refine m_note m hR w (fun J hJ xJ => ?_)
    have f0 : J 370 0 = (sNw S).1.length := hJ.2.2.2.2.1.1
    have f1 : Seg (J 370) 3 (sNw S).1 := hJ.2.2.2.2.1.2.2.2.1
    simp only [hK_p, hL_p, hI_p, hR_p, wI_p, cpI_p, hN_p, forall_eq, true_and, and_true, ne_eq, not_true_eq_false, not_false_eq_true, true_implies, false_implies, imp_false, implies_true, if_true, if_false, reduceCtorEq, m', f0, upI_self]
    refine ⟨⟨by omega, by omega⟩, ⟨by omega, by omega⟩, ⟨by omega, by omega⟩, ⟨by omega, by omega⟩, ?_⟩
    refine k _ (Rm.deed w hJ (fun a q hq => ?_) ?_ ?_) (fun a q hq => ?_)
    · rw [upI_ne (by omega)]
    · rw [upI_self, List.length_take]; omega
    · refine (f1.take _).congr (fun q q1 q2 => ?_)
      rw [upI_ne (by omega)]
    · rw [upI_ne (by omega), xJ a q (by omega)]
  · rw [if_neg c] at k
    exact k I hR (Ex.refl I)
theorem m_turn {S : St} {I : Im} {r : Rs} {Q : Int → Hp → Prop} (m : Mst r) (hR : Rm S I) (w : WF S) (k : ∀ I', Rm (oTurn S).2 I' → Ex aM I I' → Q (oTurn S).1 (I', r)) : C_X12_turn 363 (I, r) Q := by
  have m' := m
  unfold Mst at m'
  have hl := w.2.2.2.2.1.1
  apply G_X12_turn
  unfold V_X12_turn
  unfold oTurn at k
  refine ⟨m.1, m_note m hR w (fun J hJ xJ => ?_)⟩
  have f0 : J 370 0 = (sNw S).1.length := hJ.2.2.2.2.1.1
  have f1 : Seg (J 370) 3 (sNw S).1 := hJ.2.2.2.2.1.2.2.2.1
  generalize hrow : (sNw S).1 = row at *
  simp only [hK_p, hL_p, hI_p, hR_p, wI_p, cpI_p, hN_p, forall_eq, true_and, and_true, ne_eq, not_true_eq_false, not_false_eq_true, true_implies, false_implies, imp_false, implies_true, if_true, if_false, reduceCtorEq, m', f0]
  refine ⟨⟨by omega, by omega⟩, ?_⟩
  refine Lp_X12_turn_13_ind (fun t h => ∃ (K : Im), h = (K, r) ∧ 0 ≤ t ∧ t ≤ row.length / 2 ∧ Ex (fun a q => a = 370 ∧ 3 ≤ q ∧ q < 3 + row.length) J K ∧ ∀ q : Int, 0 ≤ q → q < row.length → K 370 (3 + q) = if q < t ∨ row.length - 1 - q < t then J 370 (3 + (row.length - 1 - q)) else J 370 (3 + q)) (fun t _ => (row.length / 2 - t).toNat) ?_ _ _ ⟨J, rfl, by omega, by omega, Ex.refl J, fun q q0 q1 => by rw [if_neg (by omega)]⟩
  intro P t h hI ih
  obtain ⟨K, rfl, t0, t1, xK, hK⟩ := hI
  unfold BLp_X12_turn_13
  simp only [hK_p, hL_p, hI_p, hR_p, wI_p, cpI_p, hN_p, forall_eq, true_and, and_true, ne_eq, not_true_eq_false, not_false_eq_true, true_implies, false_implies, imp_false, implies_true, if_true, if_false, reduceCtorEq, m']
  refine ⟨⟨by omega, by omega⟩, fun c => ?_, fun c => ?_⟩
  · have ht : t = row.length / 2 := by omega
    have hs : Seg (K 370) 3 row.reverse := by
      intro q v hv
      have hq : q < row.reverse.length := (List.getElem?_eq_some_iff.mp hv).1
      rw [List.length_reverse] at hq
      rw [List.getElem?_reverse hq] at hv
      have e := f1 _ _ hv
      rw [hK q (by omega) (by omega)]
      split
      · rw [← e]; congr 1; omega
      · have : row.length - 1 - q = q := by omega
        rw [this] at e
        exact e
    have hK0 : K 370 0 = row.length := by rw [xK 370 0 (by omega), f0]
    have hd : Rm (deed S row.reverse) K := Rm.deed w hJ (xK.mono (fun a q h => by omega)) (by rw [hK0]; simp) hs
    have hw2 : NSok (sNw (deed S row.reverse)) := by
      obtain ⟨g1, g2, g3⟩ := w.2.2.2.2.1
      refine ⟨by show row.reverse.length ≤ 60; simp; omega, fun v hv => ?_, g3⟩
      have hv : v ∈ row.reverse := hv
      exact g2 v (by rw [hrow]; exact List.mem_reverse.mp hv)
    refine m_figureAt m hd.2.2.2.2.1 hw2 (by omega) ?_
    exact k K hd (fun a q hq => by rw [xK a q (by omega), xJ a q (by omega)])
  · refine ⟨⟨by omega, by omega⟩, ⟨by omega, by omega⟩, ⟨by omega, by omega⟩, ⟨by omega, by omega⟩, ⟨by omega, by omega⟩, ⟨by omega, by omega⟩, ⟨by omega, by omega⟩, ⟨by omega, by omega⟩, ⟨by omega, by omega⟩, ⟨by omega, by omega⟩, ⟨by omega, by omega⟩, ⟨by omega, by omega⟩, ⟨by omega, by omega⟩, ?_⟩
    refine ih _ _ ⟨_, rfl, by omega, by omega, fun a q hq => ?_, fun q q0 q1 => ?_⟩ (by omega)
    · rw [upI_ne (by omega), upI_ne (by omega), xK a q hq]
    · have a1 := hK t (by omega) (by omega)
      have a2 := hK (row.length - 1 - t) (by omega) (by omega)
      rw [if_neg (by omega)] at a1 a2
      have ei : 3 + (row.length : Int) - 1 - t = 3 + (row.length - 1 - t) := by omega
      rw [ei, a1, a2]
      by_cases c1 : q = row.length - 1 - t
      · subst c1
        rw [upI_self, if_pos (by omega)]
        congr 1
        omega
      · rw [upI_ne (by omega)]
        by_cases c2 : q = t
        · subst c2
          rw [upI_self, if_pos (by omega)]
        · rw [upI_ne (by omega), hK q q0 q1]
          by_cases c3 : q < t ∨ row.length - 1 - q < t
          · rw [if_pos c3, if_pos (by omega)]
          · rw [if_neg c3, if_neg (by omega)]
