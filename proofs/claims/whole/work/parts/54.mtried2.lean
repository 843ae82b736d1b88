/-! MODEL, part 13: back, in, changes -/
theorem m_isItself {I : Im} {r : Rs} {xs ys : List Int} {Q : Int → Hp → Prop} (m : Mst r) (hw : rw_ I xs) (hs : sd I ys) (hx : xs.length ≤ 60) (k : Q (if ys = xs then 1 else 0) (I, r)) : C_X12_isItself 363 (I, r) Q := by
  have m' := m
  unfold Mst at m'
  have lp : ∀ b : Int, ((b = 1 ∧ ys.length = xs.length) ∨ (b = 0 ∧ ¬ ys.length = xs.length)) → Lp_X12_isItself_19 363 b 0 (I, r) Q := by
    intro b hb
    refine Lp_X12_isItself_19_ind (fun x2 x3 h => ∃ t : Nat, x3 = t ∧ h = (I, r) ∧ t ≤ xs.length ∧ ((x2 = 1 ∧ ys.length = xs.length ∧ ∀ i : Nat, i < t → ys.getD i 0 = xs.getD i 0) ∨ (x2 = 0 ∧ ¬ ys = xs))) (fun x2 x3 _ => xs.length - x3.toNat) ?_ _ _ _ ⟨0, rfl, rfl, Nat.zero_le _, ?_⟩
    · intro P x2 x3 h hI ih
      obtain ⟨t, rfl, rfl, t1, t2⟩ := hI
      unfold BLp_X12_isItself_19
      simp only [hK_p, hL_p, hI_p, hR_p, wI_p, cpI_p, hN_p, forall_eq, true_and, and_true, ne_eq, not_true_eq_false, not_false_eq_true, true_implies, false_implies, imp_false, implies_true, if_true, if_false, reduceCtorEq, m', hw.1]
      have fin : (t = xs.length ∨ x2 = 0) → (x2 = 0 ∨ x2 = 1) ∧ Q x2 (I, r) := by
        intro ht
        rcases t2 with ⟨z1, z2, z3⟩ | ⟨z1, z2⟩
        · rw [if_pos (seg_eq z2 (fun i hi => z3 i (by omega)))] at k
          rw [z1]
          exact ⟨Or.inr rfl, k⟩
        · rw [if_neg z2] at k
          rw [z1]
          exact ⟨Or.inl rfl, k⟩
      refine ⟨fun c => fin (Or.inl (by omega)), fun c => ⟨fun c2 => fin (Or.inr c2), fun c2 => ?_⟩⟩
      have ht : t < xs.length := by omega
      rcases t2 with ⟨z1, z2, z3⟩ | ⟨z1, z2⟩
      · have ra : I 381 t = ys.getD t 0 := by have := hs.2.getD (k := t) (by omega) 0; rw [Int.zero_add] at this; exact this
        have rb : I 380 t = xs.getD t 0 := by have := hw.2.getD ht 0; rw [Int.zero_add] at this; exact this
        rw [ra, rb]
        refine ⟨⟨by omega, by omega⟩, ⟨by omega, by omega⟩, fun c3 => ⟨⟨by omega, by omega⟩, ih _ _ _ ⟨t + 1, by omega, rfl, by omega, Or.inr ⟨rfl, fun z => c3 (by rw [z])⟩⟩ (by omega)⟩, fun c3 => ⟨⟨by omega, by omega⟩, ih _ _ _ ⟨t + 1, by omega, rfl, by omega, Or.inl ⟨rfl, z2, fun i hi => ?_⟩⟩ (by omega)⟩⟩
        rcases (show i < t ∨ i = t by omega) with h1 | h1
        · exact z3 i h1
        · rw [h1]; exact c3
      · exact absurd z1 c2
    · rcases hb with ⟨z1, z2⟩ | ⟨z1, z2⟩
      · exact Or.inl ⟨z1, z2, fun i hi => absurd hi (by omega)⟩
      · exact Or.inr ⟨z1, fun z => z2 (by rw [z])⟩
  apply G_X12_isItself
  unfold V_X12_isItself
  simp only [hK_p, hL_p, hI_p, hR_p, wI_p, cpI_p, hN_p, forall_eq, true_and, and_true, ne_eq, not_true_eq_false, not_false_eq_true, true_implies, false_implies, imp_false, implies_true, if_true, if_false, reduceCtorEq, m', hw.1, hs.1]
  exact ⟨fun c => lp 0 (Or.inr ⟨rfl, by omega⟩), fun c => lp 1 (Or.inl ⟨rfl, by omega⟩)⟩
theorem bkN_none {k : Nat} {row : List Int} (h : un 9 (-1) row = none) : bkN (k + 1) row = (0, row) := by
  show (match un 9 (-1) row with | none => (0, row) | some ys => if row = [] ∨ ys.length > 60 ∨ ys = row then (0, row) else ((bkN k ys).1 + 1, (bkN k ys).2)) = _
  rw [h]
theorem bkN_some {k : Nat} {row ys : List Int} (h : un 9 (-1) row = some ys) : bkN (k + 1) row = if row = [] ∨ ys.length > 60 ∨ ys = row then (0, row) else ((bkN k ys).1 + 1, (bkN k ys).2) := by
  show (match un 9 (-1) row with | none => (0, row) | some ys => if row = [] ∨ ys.length > 60 ∨ ys = row then (0, row) else ((bkN k ys).1 + 1, (bkN k ys).2)) = _
  rw [h]
theorem bkN_nil (k : Nat) : bkN k [] = (0, []) := by
  cases k with
  | zero => rfl
  | succ k =>
    rw [bkN_some (ys := []) rfl, if_pos (Or.inl rfl)]
theorem m_back {S : St} {I : Im} {r : Rs} {q : Int} {Q : Int → Hp → Prop} (m : Mst r) (hR : Rm S I) (w : WF S) (k : ∀ I', Rm S I' → Ex aM I I' → Q (oBack S q) (I', r)) : C_X12_back 363 q (I, r) Q := by
  have m' := m
  unfold Mst at m'
  have ok := w.2.2.2.2.1
  apply G_X12_back
  unfold V_X12_back
  unfold oBack at k
  refine m_is (fun c => ⟨fun _ => ⟨m.1, ?_⟩, fun z => absurd z (by decide)⟩) (fun c => ⟨fun z => absurd rfl z, fun _ => ?_⟩)
  · rw [if_pos c] at k
    refine m_begin m hR.2.2.2.2.1 ok (fun J hJ xJ => ?_)
    refine Lp_X12_back_18_ind (fun x h => ∃ (u : Nat) (K : Im) (xs : List Int), x = u ∧ h = (K, r) ∧ u ≤ 60 ∧ rw_ K xs ∧ xs.length ≤ 60 ∧ figs xs ∧ Ex aRd I K ∧ bkN 60 (sNw S).1 = ((bkN (60 - u) xs).1 + u, (bkN (60 - u) xs).2)) (fun x _ => 60 - x.toNat) ?_ _ _ ⟨0, J, _, rfl, rfl, by omega, hJ, ok.1, ok.2.1, xJ, rfl⟩
    intro P x h hI ih
    obtain ⟨u, K, xs, rfl, rfl, u1, u2, u3, u4, u5, u6⟩ := hI
    have stop : ∀ Z : Im, Ex aSd K Z → bkN (60 - u) xs = (0, xs) → J_X12_back_85 363 q u (Z, r) Q := by
      intro Z hZ hb
      rw [hb] at u6
      have k := k Z (hR.kept ((u5.trans hZ (C := aSc) (fun a q h => by omega) (fun a q h => by omega)))) ((u5.trans hZ (C := aM) (fun a q h => by omega) (fun a q h => by omega)))
      rw [u6] at k
      have u2 := u2.kept hZ
      unfold J_X12_back_85
      simp only [hK_p, hL_p, hI_p, hR_p, wI_p, cpI_p, hN_p, forall_eq, true_and, and_true, ne_eq, not_true_eq_false, not_false_eq_true, true_implies, false_implies, imp_false, implies_true, if_true, if_false, reduceCtorEq, m', u2.1]
      refine ⟨fun c2 => ?_, fun c2 => ?_⟩
      · rw [if_neg c2] at k; exact k
      · rw [if_pos c2] at k
        have e : ((0 + u : Nat) : Int) = u := by omega
        rw [e] at k
        exact k
    unfold BLp_X12_back_18
    simp only [hK_p, hL_p, hI_p, hR_p, wI_p, cpI_p, hN_p, forall_eq, true_and, and_true, ne_eq, not_true_eq_false, not_false_eq_true, true_implies, false_implies, imp_false, implies_true, if_true, if_false, reduceCtorEq, m', u2.1]
    refine ⟨fun c2 => ?_, fun c2 => ⟨fun c3 => ?_, fun c3 => ?_⟩⟩
    · refine stop K (Ex.refl K) ?_
      rw [show 60 - u = 0 by omega]; rfl
    · refine stop K (Ex.refl K) ?_
      have : xs = [] := List.length_eq_zero_iff.mp (by omega)
      rw [this, bkN_nil]
    · obtain ⟨v, hv⟩ : ∃ v, 60 - u = v + 1 := ⟨59 - u, by omega⟩
      have hne : xs ≠ [] := fun z => by rw [z] at c3; simp at c3
      refine m_isUnread m u2 u4 u3 (fun Z ys hu hs xZ => ⟨fun z => absurd z (by decide), fun _ => ?_⟩) (fun Z hu xZ => ⟨fun _ => ?_, fun z => absurd rfl z⟩)
      · have hb := bkN_some (k := v) hu
        rw [← hv] at hb
        have w2 := u2.kept xZ
        have hyf := un_fig _ _ _ _ u4 hu
        simp only [hK_p, hL_p, hI_p, hR_p, wI_p, cpI_p, hN_p, forall_eq, true_and, and_true, ne_eq, not_true_eq_false, not_false_eq_true, true_implies, false_implies, imp_false, implies_true, if_true, if_false, reduceCtorEq, m', hs.1]
        refine ⟨fun c4 => stop Z xZ (by rw [hb, if_pos (Or.inr (Or.inl (by omega)))]), fun c4 => ?_⟩
        refine m_isItself m w2 hs u3 ?_
        by_cases c5 : ys = xs
        · rw [if_pos c5]
          exact ⟨fun _ => stop Z xZ (by rw [hb, if_pos (Or.inr (Or.inr c5))]), fun z => absurd z (by decide)⟩
        · rw [if_neg c5]
          refine ⟨fun z => absurd rfl z, fun _ => ?_⟩
          rw [if_neg (by intro z; rcases z with z | z | z; exact hne z; omega; exact c5 z)] at hb
          simp only [hK_p, hL_p, hI_p, hR_p, wI_p, cpI_p, hN_p, forall_eq, true_and, and_true, ne_eq, not_true_eq_false, not_false_eq_true, true_implies, false_implies, imp_false, implies_true, if_true, if_false, reduceCtorEq, m', hs.1]
          refine m_bring (by simp only [m']) (by simp only [m']) (by omega) (by simp only [m']; omega) (by omega) (by simp only [m']; omega) (by omega) (by simp only [m']; omega) (by simp only [m']; omega) (Or.inl (by omega)) ?_
          have f0 : cpy Z 381 0 380 0 (ys.length : Int) 363 31 = ys.length := by rw [cpy_at, if_neg (by omega), hs.1]
          simp only [hK_p, hL_p, hI_p, hR_p, wI_p, cpI_p, hN_p, forall_eq, true_and, and_true, ne_eq, not_true_eq_false, not_false_eq_true, true_implies, false_implies, imp_false, implies_true, if_true, if_false, reduceCtorEq, m', f0]
          refine ⟨⟨by omega, by omega⟩, ih _ _ ⟨u + 1, _, ys, by omega, rfl, by omega, ⟨by rw [upI_self], ?_⟩, by omega, hyf, fun a q hq => ?_, ?_⟩ (by omega)⟩
          · refine hs.2.shift (fun q q0 q1 => ?_)
            rw [upI_ne (by omega), cpy_at, if_pos (by omega)]
            congr 1
            omega
          · rw [upI_ne (by omega), cpy_at, if_neg (by omega), xZ a q (by omega), u5 a q hq]
          · rw [u6, hb, show 60 - (u + 1) = v by omega]
            show ((bkN v ys).1 + 1 + u, (bkN v ys).2) = _
            congr 1
            omega
      · refine stop Z xZ ?_
        rw [hv, bkN_none hu]
  · rw [if_neg c] at k
    exact k I hR (Ex.refl I)
theorem m_in {S : St} {I : Im} {r : Rs} {x : Int} {Q : Int → Hp → Prop} (m : Mst r) (hR : Rm S I) (w : WF S) (k : Q (oIn S x) (I, r)) : C_X12_in 363 x (I, r) Q := by
  have m' := m
  unfold Mst at m'
  have hl := w.2.2.2.2.1.1
  have e0 : I 370 0 = (sNw S).1.length := hR.2.2.2.2.1.1
  apply G_X12_in
  unfold V_X12_in
  unfold oIn at k
  refine ⟨m.1, m_isWord m hR w (fun c => ⟨fun _ => ?_, fun z => absurd z (by decide)⟩) (fun c => ⟨fun z => absurd rfl z, fun _ => ?_⟩)⟩
  · rw [if_pos c] at k
    refine Lp_X12_in_13_ind (fun y h => ∃ u : Nat, y = u ∧ h = (I, r) ∧ u ≤ (sNw S).1.length ∧ inN (sNw S).1 (wd S x) (sNw S).1.length 0 = inN (sNw S).1 (wd S x) ((sNw S).1.length - u) u) (fun y _ => (sNw S).1.length - y.toNat) ?_ _ _ ⟨0, rfl, rfl, Nat.zero_le _, rfl⟩
    intro P y h hI ih
    obtain ⟨u, rfl, rfl, u1, u2⟩ := hI
    unfold BLp_X12_in_13
    simp only [hK_p, hL_p, hI_p, hR_p, wI_p, cpI_p, hN_p, forall_eq, true_and, and_true, ne_eq, not_true_eq_false, not_false_eq_true, true_implies, false_implies, imp_false, implies_true, if_true, if_false, reduceCtorEq, m', e0]
    refine ⟨⟨by omega, by omega⟩, fun c2 => ?_, fun c2 => ?_⟩
    · rw [u2, show (sNw S).1.length - u = 0 by omega] at k
      exact k
    · obtain ⟨v, hv⟩ : ∃ v, (sNw S).1.length - u = v + 1 := ⟨(sNw S).1.length - u - 1, by omega⟩
      rw [hv] at u2
      have e : inN (sNw S).1 (wd S x) (v + 1) u = if stnd (sNw S).1 u (wd S x) = true then (u : Int) else inN (sNw S).1 (wd S x) v (u + 1) := rfl
      rw [e] at u2
      refine m_stands m hR w c (by omega) ?_
      by_cases c3 : stnd (sNw S).1 u (wd S x) = true
      · rw [if_pos c3] at u2 ⊢
        refine ⟨fun z => absurd z (by decide), fun _ => ?_⟩
        rw [u2] at k; exact k
      · rw [if_neg c3] at u2 ⊢
        exact ⟨fun _ => ⟨⟨by omega, by omega⟩, ih _ _ ⟨u + 1, by omega, rfl, by omega, by rw [u2]; congr 1; omega⟩ (by omega)⟩, fun z => absurd rfl z⟩
  · rw [if_neg c] at k; exact k
theorem edD_nl (ys : List Int) : edD [] ys = ys.length := by rw [edD]
theorem edD_nr (xs : List Int) : edD xs [] = xs.length := by
  cases xs with
  | nil => rw [edD]
  | cons x xs => rw [edD]
theorem edD_cc (x : Int) (xs : List Int) (y : Int) (ys : List Int) : edD (x :: xs) (y :: ys) = min (edD xs ys + (if x = y then 0 else 1)) (min (edD xs (y :: ys) + 1) (edD (x :: xs) ys + 1)) := by rw [edD]
theorem edD_rng : ∀ (n : Nat) (xs ys : List Int), xs.length + ys.length ≤ n → 0 ≤ edD xs ys ∧ edD xs ys ≤ xs.length + ys.length := by
  intro n
  induction n with
  | zero =>
    intro xs ys h
    have h1 : xs = [] := List.length_eq_zero_iff.mp (by omega)
    subst h1
    rw [edD_nl]; simp
  | succ n ih =>
    intro xs ys h
    cases xs with
    | nil => rw [edD_nl]; simp
    | cons x xs =>
      cases ys with
      | nil => rw [edD_nr]; simp; omega
      | cons y ys =>
        rw [edD_cc]
        simp at h
        have a := ih xs ys (by omega)
        have b := ih xs (y :: ys) (by simp; omega)
        have c := ih (x :: xs) ys (by simp; omega)
        simp at b c ⊢
        split <;> omega
def eE (row wo : List Int) (k i : Nat) : Int := edD (row.take k).reverse (wo.take i).reverse
theorem eE_0 (row wo : List Int) {k : Nat} (hk : k ≤ row.length) : eE row wo k 0 = k := by
  unfold eE; rw [List.take_zero]
  show edD _ [] = _
  rw [edD_nr]; simp; omega
theorem eE_r (row wo : List Int) {i : Nat} (hi : i ≤ wo.length) : eE row wo 0 i = i := by
  unfold eE; rw [List.take_zero]
  show edD [] _ = _
  rw [edD_nl]; simp; omega
theorem eE_s (row wo : List Int) {k i : Nat} (hk : k < row.length) (hi : i < wo.length) : eE row wo (k + 1) (i + 1) = min (eE row wo k i + (if row[k] = wo[i] then 0 else 1)) (min (eE row wo k (i + 1) + 1) (eE row wo (k + 1) i + 1)) := by
  unfold eE
  rw [rev_drop hk, rev_drop hi, edD_cc]
theorem eE_rng (row wo : List Int) {k i : Nat} (hk : k ≤ row.length) (hi : i ≤ wo.length) : 0 ≤ eE row wo k i ∧ eE row wo k i ≤ row.length + wo.length := by
  have := edD_rng _ (row.take k).reverse (wo.take i).reverse (Nat.le_refl _)
  simp at this
  unfold eE
  omega
theorem m_changes {S : St} {I : Im} {r : Rs} {x : Int} {Q : Int → Hp → Prop} (m : Mst r) (hR : Rm S I) (w : WF S) (k : ∀ I', Rm S I' → Ex aM I I' → Q (oChanges S x) (I', r)) : C_X12_changes 363 x (I, r) Q := by
  have m' := m
  unfold Mst at m'
  have hl := w.2.2.2.2.1.1
  have hwl := w.2.2.2.1.1
  have e0 : I 370 0 = (sNw S).1.length := hR.2.2.2.2.1.1
  have e1 : Seg (I 370) 3 (sNw S).1 := hR.2.2.2.2.1.2.2.2.1
  apply G_X12_changes
  unfold V_X12_changes
  unfold oChanges at k
  refine ⟨m.1, m_isWord m hR w (fun c => ⟨fun _ => ?_, fun z => absurd z (by decide)⟩) (fun c => ⟨fun z => absurd rfl z, fun _ => ?_⟩)⟩
  · rw [if_pos c] at k
    obtain ⟨w1, w2⟩ := hR.2.2.2.1.at c
    have okw := wl_ok w.2.2.2.1 c
    rw [show (sWl S).getD x.toNat [] = wd S x from rfl] at w1 w2 okw
    generalize wd S x = wo at *
    generalize hrow : (sNw S).1 = row at *
    simp only [hK_p, hL_p, hI_p, hR_p, wI_p, cpI_p, hN_p, forall_eq, true_and, and_true, ne_eq, not_true_eq_false, not_false_eq_true, true_implies, false_implies, imp_false, implies_true, if_true, if_false, reduceCtorEq, m', e0]
    refine ⟨⟨by omega, by omega⟩, ?_⟩
    have exS : ∀ J : Im, Ex (fun a _ => a = 386) I J → Rm S J ∧ Ex aM I J := fun J hJ => ⟨hR.kept (hJ.mono (fun a q h => by omega)), hJ.mono (fun a q h => by omega)⟩
    -- the rows of the table
    have lp40 : ∀ J : Im, Ex (fun a _ => a = 386) I J → (∀ j : Nat, j ≤ row.length → J 386 j = eE row wo j 0) → Lp_X12_changes_40 363 x row.length 0 (J, r) Q := by
      intro J hJ hJ0
      refine Lp_X12_changes_40_ind (fun y h => ∃ (i : Nat) (K : Im), y = i ∧ h = (K, r) ∧ i ≤ wo.length ∧ Ex (fun a _ => a = 386) I K ∧ ∀ j : Nat, j ≤ row.length → K 386 j = eE row wo j i) (fun y _ => wo.length - y.toNat) ?_ _ _ ⟨0, J, rfl, rfl, Nat.zero_le _, hJ, hJ0⟩
      intro P y h hI ih
      obtain ⟨i, K, rfl, rfl, i1, i2, i3⟩ := hI
      have kw : K 368 x = wo.length := by rw [i2 _ _ (by omega), w1]
      unfold BLp_X12_changes_40
      simp only [hK_p, hL_p, hI_p, hR_p, wI_p, cpI_p, hN_p, forall_eq, true_and, and_true, ne_eq, not_true_eq_false, not_false_eq_true, true_implies, false_implies, imp_false, implies_true, if_true, if_false, reduceCtorEq, m', kw]
      refine ⟨⟨by omega, by omega⟩, fun c2 => ?_, fun c2 => ?_⟩
      · have hi : i = wo.length := by omega
        subst hi
        have v := i3 row.length (Nat.le_refl _)
        obtain ⟨g1, g2⟩ := exS K i2
        have k := k K g1 g2
        have e : eE row wo row.length wo.length = edD row.reverse wo.reverse := by unfold eE; rw [List.take_length, List.take_length]
        rw [← e, ← v] at k
        exact ⟨⟨by omega, by omega⟩, k⟩
      · have hil : i < wo.length := by omega
        refine ⟨⟨by omega, by omega⟩, ⟨by omega, by omega⟩, ⟨by omega, by omega⟩, ?_⟩
        have k0 : K 386 0 = i := by
          have := i3 0 (Nat.zero_le _)
          rw [eE_r row wo (by omega)] at this
          exact this
        rw [k0]
        refine Lp_X12_changes_70_ind (fun x4 x5 h => ∃ (u : Nat) (L : Im), x5 = ((u + 1 : Nat) : Int) ∧ h = (L, r) ∧ u ≤ row.length ∧ x4 = eE row wo u i ∧ Ex (fun a _ => a = 386) I L ∧ (∀ j : Nat, j ≤ u → L 386 j = eE row wo j (i + 1)) ∧ (∀ j : Nat, u < j → j ≤ row.length → L 386 j = eE row wo j i)) (fun x4 x5 _ => row.length + 1 - x5.toNat) ?_ _ _ _ ⟨0, _, rfl, rfl, Nat.zero_le _, by rw [eE_r row wo (by omega)], fun a q hq => by rw [upI_ne (by omega), i2 a q hq], fun j hj => ?_, fun j hj hj2 => by rw [upI_ne (by omega)]; exact i3 j hj2⟩
        · intro P70 x4 x5 h hI ih2
          obtain ⟨u, L, rfl, rfl, u1, rfl, u2, u3, u4⟩ := hI
          unfold BLp_X12_changes_70
          refine ⟨fun c3 => ?_, fun c3 => ?_⟩
          · have hu : u = row.length := by omega
            refine ⟨⟨by omega, by omega⟩, ih _ _ ⟨i + 1, L, by omega, rfl, by omega, u2, fun j hj => u3 j (by omega)⟩ (by omega)⟩
          · have hul : u < row.length := by omega
            have ra : L 370 (3 + ((u + 1 : Nat) : Int) - 1) = row[u] := by
              rw [u2 _ _ (by omega)]
              have := e1.get hul
              rw [← this]; congr 1; omega
            have rb : L 369 (8 * x + i) = wo[i] := by
              rw [u2 _ _ (by omega)]
              exact w2.get hil
            simp only [hK_p, hL_p, hI_p, hR_p, wI_p, cpI_p, hN_p, forall_eq, true_and, and_true, ne_eq, not_true_eq_false, not_false_eq_true, true_implies, false_implies, imp_false, implies_true, if_true, if_false, reduceCtorEq, m', ra, rb]
            have r1 := eE_rng row wo (k := u) (i := i) (by omega) (by omega)
            have r2 := eE_rng row wo (k := u) (i := i + 1) (by omega) (by omega)
            have r3 := eE_rng row wo (k := u + 1) (i := i) (by omega) (by omega)
            have es := eE_s row wo hul hil
            have lv1 := u4 (u + 1) (by omega) (by omega)
            have lv0 : L 386 (((u + 1 : Nat) : Int) - 1) = eE row wo u (i + 1) := by
              rw [← u3 u (Nat.le_refl _)]; congr 1; omega
            have j108 : ∀ d : Int, d = (if row[u] = wo[i] then 0 else 1) → J_X12_changes_108 P70 363 x row.length i ((u + 1 : Nat) : Int) d (eE row wo u i) (L, r) Q := by
              intro d hd
              have hd2 : 0 ≤ d ∧ d ≤ 1 := by rw [hd]; split <;> omega
              rw [← hd] at es
              have nxt : ∀ v : Int, v = eE row wo (u + 1) (i + 1) → P70 (eE row wo (u + 1) i) (((u + 1 : Nat) : Int) + 1) (upI L 386 ((u + 1 : Nat) : Int) v, r) := by
                intro v hv
                refine ih2 _ _ _ ⟨u + 1, _, by omega, rfl, by omega, rfl, fun a q hq => by rw [upI_ne (by omega), u2 a q hq], fun j hj => ?_, fun j hj hj2 => by rw [upI_ne (by omega)]; exact u4 j (by omega) hj2⟩ (by omega)
                rcases (show j = u + 1 ∨ j ≤ u by omega) with h1 | h1
                · subst h1; rw [upI_self, hv]
                · rw [upI_ne (by omega)]; exact u3 j h1
              unfold J_X12_changes_108 J_X12_changes_158
              simp only [hK_p, hL_p, hI_p, hR_p, wI_p, cpI_p, hN_p, forall_eq, true_and, and_true, ne_eq, not_true_eq_false, not_false_eq_true, true_implies, false_implies, imp_false, implies_true, if_true, if_false, reduceCtorEq, m', lv1, lv0]
              refine ⟨⟨by omega, by omega⟩, ⟨by omega, by omega⟩, ⟨by omega, by omega⟩, ⟨by omega, by omega⟩, ⟨by omega, by omega⟩, ⟨by omega, by omega⟩, ⟨by omega, by omega⟩, fun c4 => ⟨fun c5 => ⟨⟨by omega, by omega⟩, ⟨by omega, by omega⟩, nxt _ (by omega)⟩, fun c5 => ⟨⟨by omega, by omega⟩, ⟨by omega, by omega⟩, nxt _ (by omega)⟩⟩, fun c4 => ⟨fun c5 => ⟨⟨by omega, by omega⟩, ⟨by omega, by omega⟩, nxt _ (by omega)⟩, fun c5 => ⟨⟨by omega, by omega⟩, ⟨by omega, by omega⟩, nxt _ (by omega)⟩⟩⟩
            refine ⟨⟨by omega, by omega⟩, ⟨by omega, by omega⟩, ⟨by omega, by omega⟩, ⟨by omega, by omega⟩, ⟨by omega, by omega⟩, ⟨by omega, by omega⟩, fun c4 => j108 1 (by rw [if_neg c4]), fun c4 => j108 0 (by rw [if_pos c4])⟩
        · have hj0 : j = 0 := by omega
          subst hj0
          rw [eE_r row wo (by omega)]
          exact upI_self _ _ _ _
    refine Lp_X12_changes_20_ind (fun y h => ∃ (u : Nat) (K : Im), y = u ∧ h = (K, r) ∧ u ≤ row.length + 1 ∧ Ex (fun a _ => a = 386) I K ∧ ∀ j : Nat, j < u → K 386 j = j) (fun y _ => row.length + 1 - y.toNat) ?_ _ _ ⟨0, I, rfl, rfl, Nat.zero_le _, Ex.refl I, fun j hj => absurd hj (by omega)⟩
    intro P y h hI ih
    obtain ⟨u, K, rfl, rfl, u1, u2, u3⟩ := hI
    unfold BLp_X12_changes_20
    simp only [hK_p, hL_p, hI_p, hR_p, wI_p, cpI_p, hN_p, forall_eq, true_and, and_true, ne_eq, not_true_eq_false, not_false_eq_true, true_implies, false_implies, imp_false, implies_true, if_true, if_false, reduceCtorEq, m']
    refine ⟨fun c2 => lp40 K u2 (fun j hj => by rw [u3 j (by omega), eE_0 row wo hj]), fun c2 => ⟨⟨by omega, by omega⟩, ⟨by omega, by omega⟩, ih _ _ ⟨u + 1, _, by omega, rfl, by omega, fun a q hq => by rw [upI_ne (by omega), u2 a q hq], fun j hj => ?_⟩ (by omega)⟩⟩
    rcases (show j = u ∨ j < u by omega) with h1 | h1
    · subst h1; rw [upI_self]
    · rw [upI_ne (by omega)]; exact u3 j h1
  · rw [if_neg c] at k
    exact k I hR (Ex.refl I)
