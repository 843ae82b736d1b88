/-! MODEL, part 11: ways, what is tried -/
theorem stnd_iff {row w : List Int} {p : Nat} (hw : 1 ≤ w.length) : stnd row p w = true ↔ p + w.length ≤ row.length ∧ ∀ i : Nat, i < w.length → row.getD (p + i) 0 = w.getD i 0 := by
  unfold stnd
  rw [decide_eq_true_eq]
  have gd : ∀ (xs : List Int) (i : Nat), i < xs.length → xs[i]? = some (xs.getD i 0) := fun xs i hi => by
    rw [List.getD_eq_getElem?_getD, List.getElem?_eq_getElem hi]; rfl
  constructor
  · intro h
    have hl := congrArg List.length h
    rw [List.length_take, List.length_drop] at hl
    refine ⟨by omega, fun i hi => ?_⟩
    have e : ((row.drop p).take w.length)[i]? = w[i]? := by rw [h]
    rw [List.getElem?_take, if_pos hi, List.getElem?_drop, gd row (p + i) (by omega), gd w i hi] at e
    exact Option.some.inj e
  · intro h
    apply List.ext_getElem?
    intro i
    by_cases hi : i < w.length
    · rw [List.getElem?_take, if_pos hi, List.getElem?_drop, gd row (p + i) (by omega), gd w i hi, h.2 i hi]
    · rw [List.getElem?_take, if_neg hi, List.getElem?_eq_none (by omega)]
theorem m_stands {S : St} {I : Im} {r : Rs} {x : Int} {p : Nat} {Q : Int → Hp → Prop} (m : Mst r) (hR : Rm S I) (w : WF S) (hx : 0 ≤ x ∧ x ≤ (sWl S).length - 1) (hp : p ≤ 60) (k : Q (if stnd (sNw S).1 p (wd S x) = true then 1 else 0) (I, r)) : C_X12_stands 363 x p (I, r) Q := by
  have m' := m
  unfold Mst at m'
  have hl := w.2.2.2.2.1.1
  have hwl := w.2.2.2.1.1
  have e0 : I 370 0 = (sNw S).1.length := hR.2.2.2.2.1.1
  have e1 : Seg (I 370) 3 (sNw S).1 := hR.2.2.2.2.1.2.2.2.1
  obtain ⟨w1, w2⟩ := hR.2.2.2.1.at hx
  have okw := wl_ok w.2.2.2.1 hx
  rw [show (sWl S).getD x.toNat [] = wd S x from rfl] at w1 w2 okw
  generalize wd S x = wo at *
  generalize hrow : (sNw S).1 = row at *
  have si := stnd_iff (row := row) (w := wo) (p := p) okw.1
  have lp : ∀ b : Int, ((b = 1 ∧ p + wo.length ≤ row.length) ∨ (b = 0 ∧ ¬ p + wo.length ≤ row.length)) → Lp_X12_stands_26 363 x p b 0 (I, r) Q := by
    intro b hb
    refine Lp_X12_stands_26_ind (fun x3 x4 h => ∃ t : Nat, x4 = t ∧ h = (I, r) ∧ t ≤ wo.length ∧ ((x3 = 1 ∧ p + wo.length ≤ row.length ∧ ∀ i : Nat, i < t → row.getD (p + i) 0 = wo.getD i 0) ∨ (x3 = 0 ∧ ¬ stnd row p wo = true))) (fun x3 x4 _ => wo.length - x4.toNat) ?_ _ _ _ ⟨0, rfl, rfl, Nat.zero_le _, ?_⟩
    · intro P x3 x4 h hI ih
      obtain ⟨t, rfl, rfl, t1, t2⟩ := hI
      unfold BLp_X12_stands_26
      simp only [hK_p, hL_p, hI_p, hR_p, wI_p, cpI_p, hN_p, forall_eq, true_and, and_true, ne_eq, not_true_eq_false, not_false_eq_true, true_implies, false_implies, imp_false, implies_true, if_true, if_false, reduceCtorEq, m', w1]
      have fin : (t = wo.length ∨ x3 = 0) → (x3 = 0 ∨ x3 = 1) ∧ Q x3 (I, r) := by
        intro ht
        rcases t2 with ⟨z1, z2, z3⟩ | ⟨z1, z2⟩
        · have : t = wo.length := by omega
          subst this
          rw [if_pos (si.mpr ⟨z2, z3⟩)] at k
          rw [z1]
          exact ⟨Or.inr rfl, k⟩
        · rw [if_neg z2] at k
          rw [z1]
          exact ⟨Or.inl rfl, k⟩
      refine ⟨⟨by omega, by omega⟩, fun c => fin (Or.inl (by omega)), fun c => ⟨fun c2 => fin (Or.inr c2), fun c2 => ?_⟩⟩
      have ht : t < wo.length := by omega
      rcases t2 with ⟨z1, z2, z3⟩ | ⟨z1, z2⟩
      · have ra : I 370 (3 + (p : Int) + t) = row.getD (p + t) 0 := by
          have := e1.getD (k := p + t) (by omega) 0
          rw [← this]; congr 1; omega
        have rb : I 369 (8 * x + t) = wo.getD t 0 := w2.getD ht 0
        rw [ra, rb]
        refine ⟨⟨by omega, by omega⟩, ⟨by omega, by omega⟩, ⟨by omega, by omega⟩, ⟨by omega, by omega⟩, ⟨by omega, by omega⟩, ⟨by omega, by omega⟩, fun c3 => ⟨⟨by omega, by omega⟩, ih _ _ _ ⟨t + 1, by omega, rfl, by omega, Or.inr ⟨rfl, fun z => c3 ((si.mp z).2 t ht)⟩⟩ (by omega)⟩, fun c3 => ⟨⟨by omega, by omega⟩, ih _ _ _ ⟨t + 1, by omega, rfl, by omega, Or.inl ⟨rfl, z2, fun i hi => ?_⟩⟩ (by omega)⟩⟩
        rcases (show i < t ∨ i = t by omega) with h1 | h1
        · exact z3 i h1
        · rw [h1]; exact c3
      · exact absurd z1 c2
    · rcases hb with ⟨z1, z2⟩ | ⟨z1, z2⟩
      · exact Or.inl ⟨z1, z2, fun i hi => absurd hi (by omega)⟩
      · exact Or.inr ⟨z1, fun z => z2 (si.mp z).1⟩
  apply G_X12_stands
  unfold V_X12_stands
  simp only [hK_p, hL_p, hI_p, hR_p, wI_p, cpI_p, hN_p, forall_eq, true_and, and_true, ne_eq, not_true_eq_false, not_false_eq_true, true_implies, false_implies, imp_false, implies_true, if_true, if_false, reduceCtorEq, m', w1, e0]
  refine ⟨⟨by omega, by omega⟩, ⟨by omega, by omega⟩, ⟨by omega, by omega⟩, fun c => lp 0 (Or.inr ⟨rfl, by omega⟩), fun c => lp 1 (Or.inl ⟨rfl, by omega⟩)⟩
theorem tl_len (wl : List (List Int)) (row : List Int) : ∀ r, (tl wl row r).length = r + 1
  | 0 => rfl
  | r + 1 => by show (tl wl row r).length + 1 = _; rw [tl_len wl row r]
theorem tl_at (wl : List (List Int)) (row : List Int) : ∀ (r j : Nat), j ≤ r → (tl wl row r).getD j 0 = tt wl row (r - j)
  | r, 0, _ => rfl
  | 0, j + 1, h => by omega
  | r + 1, j + 1, h => by
    have e : (tl wl row (r + 1)).getD (j + 1) 0 = (tl wl row r).getD j 0 := rfl
    rw [e, tl_at wl row r j (by omega)]
    congr 1
    omega
/-- the ways with a figure more ahead -/
theorem tt_s (wl : List (List Int)) (row : List Int) (r : Nat) : tt wl row (r + 1) = sumW (fun w => if stnd row (row.length - (r + 1)) w = true then (tl wl row r).getD (w.length - 1) 0 else 0) wl := rfl
theorem sumW_app (f : List Int → Nat) : ∀ a b : List (List Int), sumW f (a ++ b) = sumW f a + sumW f b
  | [], b => by simp [sumW]
  | w :: a, b => by
    show f w + sumW f (a ++ b) = f w + sumW f a + sumW f b
    rw [sumW_app f a b]; omega
theorem cap_add (a b : Int) (ha : 0 ≤ a) (hb : 0 ≤ b) : min 1000000000 (min 1000000000 a + min 1000000000 b) = min 1000000000 (a + b) := by omega
theorem m_ways {S : St} {I : Im} {r : Rs} {Q : Int → Hp → Prop} (m : Mst r) (hR : Rm S I) (w : WF S) (k : ∀ I', Rm S I' → Ex aM I I' → Q (oWays S) (I', r)) : C_X12_waysToTell 363 (I, r) Q := by
  have m' := m
  unfold Mst at m'
  have hl := w.2.2.2.2.1.1
  obtain ⟨hwl, hw2⟩ := w.2.2.2.1
  have e0 : I 370 0 = (sNw S).1.length := hR.2.2.2.2.1.1
  apply G_X12_waysToTell
  unfold V_X12_waysToTell
  unfold oWays at k
  generalize hrow : (sNw S).1 = row at *
  simp only [hK_p, hL_p, hI_p, hR_p, wI_p, cpI_p, hN_p, forall_eq, true_and, and_true, ne_eq, not_true_eq_false, not_false_eq_true, true_implies, false_implies, imp_false, implies_true, if_true, if_false, reduceCtorEq, m', e0]
  refine ⟨⟨by omega, by omega⟩, ⟨by omega, by omega⟩, ⟨by omega, by omega⟩, ?_⟩
  have exS : ∀ J : Im, Ex (fun a _ => a = 385) I J → Rm S J := fun J hJ => hR.kept (hJ.mono (fun a q h => by omega))
  refine Lp_X12_waysToTell_18_ind (fun x h => ∃ (t : Nat) (J : Im), x = (row.length : Int) - 1 - t ∧ t ≤ row.length ∧ h = (J, r) ∧ Ex (fun a _ => a = 385) I J ∧ ∀ j : Nat, j ≤ t → J 385 ((row.length : Int) - j) = min 1000000000 ((tt (sWl S) row j : Nat) : Int)) (fun x _ => (x + 1).toNat) ?_ _ _ ⟨0, _, by omega, Nat.zero_le _, rfl, Ex.up rfl, fun j hj => ?_⟩
  · intro P x h hI ih
    obtain ⟨t, J, rfl, t1, rfl, t2, t3⟩ := hI
    have hRJ := exS J t2
    unfold BLp_X12_waysToTell_18
    refine ⟨fun c => ?_, fun c => ?_⟩
    · have ht : t = row.length := by omega
      have := t3 row.length (by omega)
      rw [show (row.length : Int) - (row.length : Nat) = 0 by omega] at this
      simp only [hK_p, hL_p, hI_p, hR_p, wI_p, cpI_p, hN_p, forall_eq, true_and, and_true, ne_eq, not_true_eq_false, not_false_eq_true, true_implies, false_implies, imp_false, implies_true, if_true, if_false, reduceCtorEq, m', this]
      exact ⟨⟨by omega, by omega⟩, k J hRJ (t2.mono (fun a q h => by omega))⟩
    · have hpl : (row.length : Int) - 1 - t = ((row.length - (t + 1) : Nat) : Int) := by omega
      rw [hpl]
      generalize hp : row.length - (t + 1) = p at *
      have f0 := hRJ.2.2.2.1.1
      have htt := tt_s (sWl S) row t
      rw [hp] at htt
      refine Lp_X12_waysToTell_27_ind (fun x3 x5 h => ∃ u : Nat, x5 = u ∧ h = (J, r) ∧ u ≤ (sWl S).length ∧ min 1000000000 x3 = min 1000000000 ((sumW (fun w => if stnd row p w = true then (tl (sWl S) row t).getD (w.length - 1) 0 else 0) ((sWl S).take u) : Nat) : Int) ∧ 0 ≤ x3 ∧ x3 ≤ 1000000000 * u) (fun x3 x5 _ => (sWl S).length - x5.toNat) ?_ _ _ _ ⟨0, rfl, rfl, Nat.zero_le _, rfl, by omega, by omega⟩
      intro P27 x3 x5 h hI ih2
      obtain ⟨u, rfl, rfl, u1, u2, u3, u4⟩ := hI
      unfold BLp_X12_waysToTell_27
      simp only [hK_p, hL_p, hI_p, hR_p, wI_p, cpI_p, hN_p, forall_eq, true_and, and_true, ne_eq, not_true_eq_false, not_false_eq_true, true_implies, false_implies, imp_false, implies_true, if_true, if_false, reduceCtorEq, m', f0]
      refine ⟨fun c2 => ?_, fun c2 => ?_⟩
      · have hu : u = (sWl S).length := by omega
        subst hu
        rw [List.take_length, ← htt] at u2
        have nxt : ∀ v : Int, v = min 1000000000 x3 → P ((p : Int) + -1) (upI J 385 p v, r) := by
          intro v hv
          refine ih _ _ ⟨t + 1, _, by omega, by omega, rfl, fun a q hq => by rw [upI_ne (by omega), t2 a q hq], fun j hj => ?_⟩ (by omega)
          rcases (show j = t + 1 ∨ j ≤ t by omega) with h1 | h1
          · subst h1
            rw [show (row.length : Int) - ((t + 1 : Nat) : Int) = p by omega, upI_self, hv, u2]
          · rw [upI_ne (by omega), t3 j h1]
        unfold zCmp
        refine ⟨fun c3 => ⟨?_, ⟨by omega, by omega⟩, ⟨by omega, by omega⟩, ?_⟩, fun c3 => ⟨⟨by omega, by omega⟩, ⟨by omega, by omega⟩, ?_⟩⟩
        · split at c3 <;> omega
        · refine nxt _ ?_
          split at c3 <;> omega
        · refine nxt _ ?_
          split at c3
          · omega
          · split at c3 <;> omega
      · have hul : u < (sWl S).length := by omega
        have hx : 0 ≤ (u : Int) ∧ (u : Int) ≤ (sWl S).length - 1 := by omega
        obtain ⟨w1, w2⟩ := hRJ.2.2.2.1.at hx
        have okw := wl_ok w.2.2.2.1 hx
        have hwd : wd S (u : Int) = (sWl S)[u] := by
          unfold wd
          rw [List.getD_eq_getElem?_getD]
          simp [List.getElem?_eq_getElem hul]
        rw [show (sWl S).getD (u : Int).toNat [] = wd S u from rfl, hwd] at w1 w2 okw
        refine m_stands m hRJ w hx (by omega) ?_
        rw [hrow, hwd]
        have esum : sumW (fun w => if stnd row p w = true then (tl (sWl S) row t).getD (w.length - 1) 0 else 0) ((sWl S).take (u + 1)) = sumW (fun w => if stnd row p w = true then (tl (sWl S) row t).getD (w.length - 1) 0 else 0) ((sWl S).take u) + (if stnd row p (sWl S)[u] = true then (tl (sWl S) row t).getD ((sWl S)[u].length - 1) 0 else 0) := by
          rw [List.take_succ_eq_append_getElem hul, sumW_app]
          simp [sumW]
        by_cases cs : stnd row p (sWl S)[u] = true
        · rw [if_pos cs] at esum ⊢
          have si := (stnd_iff okw.1).mp cs
          have tv := tl_at (sWl S) row t ((sWl S)[u].length - 1) (by omega)
          have jv := t3 (t - ((sWl S)[u].length - 1)) (by omega)
          rw [show (row.length : Int) - ((t - ((sWl S)[u].length - 1) : Nat) : Int) = p + (sWl S)[u].length by omega] at jv
          simp only [hK_p, hL_p, hI_p, hR_p, wI_p, cpI_p, hN_p, forall_eq, true_and, and_true, ne_eq, not_true_eq_false, not_false_eq_true, true_implies, false_implies, imp_false, implies_true, if_true, if_false, reduceCtorEq, m', w1, jv]
          refine ⟨fun z => absurd z (by decide), fun _ => ⟨⟨by omega, by omega⟩, ⟨by omega, by omega⟩, ⟨by omega, by omega⟩, ⟨by omega, by omega⟩, ⟨by omega, by omega⟩, ih2 _ _ _ ⟨u + 1, by omega, rfl, by omega, ?_, by omega, by omega⟩ (by omega)⟩⟩
          rw [esum, tv]
          omega
        · rw [if_neg cs] at esum ⊢
          simp only [hK_p, hL_p, hI_p, hR_p, wI_p, cpI_p, hN_p, forall_eq, true_and, and_true, ne_eq, not_true_eq_false, not_false_eq_true, true_implies, false_implies, imp_false, implies_true, if_true, if_false, reduceCtorEq, m']
          refine ⟨⟨by omega, by omega⟩, ⟨by omega, by omega⟩, ih2 _ _ _ ⟨u + 1, by omega, rfl, by omega, ?_, by omega, by omega⟩ (by omega)⟩
          rw [esum]
          omega
  · have hj0 : j = 0 := by omega
    subst hj0
    rw [show (row.length : Int) - ((0 : Nat) : Int) = row.length by omega, upI_self]
    rfl
theorem m_told {S : St} {I : Im} {r : Rs} {q : Int} {Q : Int → Hp → Prop} (m : Mst r) (hR : Rm S I) (w : WF S) (k : ∀ I', Rm S I' → Ex aM I I' → Q (oTold S q) (I', r)) : C_X12_told 363 q (I, r) Q := by
  have m' := m
  unfold Mst at m'
  have k0 := k I hR (Ex.refl I)
  obtain ⟨h1, h2, h3, h4, h5, h6, h7, h8, h9, h10⟩ := hR
  have n1 : I 370 0 = (sNw S).1.length := h5.1
  have n2 : I 370 1 = (sNw S).2.1 := h5.2.1
  have n3 : I 370 2 = (sNw S).2.2.length := h5.2.2.1
  apply G_X12_told
  unfold V_X12_told
  simp only [hK_p, hL_p, hI_p, hR_p, wI_p, cpI_p, hN_p, forall_eq, true_and, and_true, ne_eq, not_true_eq_false, not_false_eq_true, true_implies, false_implies, imp_false, implies_true, if_true, if_false, reduceCtorEq, m', h1.1, h3, h4.1, h6.1, h9.1, h10.1, n1, n2, n3]
  refine ⟨fun c => ?_, fun c => ?_, fun c => ⟨⟨by omega, by omega⟩, ?_⟩, fun c => ?_, fun c => ?_, fun c => ⟨⟨by omega, by omega⟩, ?_⟩, fun c => ⟨⟨by omega, by omega⟩, ?_⟩, fun c => m_runs m h5 w.2.2.2.2.1 ?_, fun c => m_longest m h5 w.2.2.2.2.1 ?_, fun c => m_longest m h5 w.2.2.2.2.1 ?_, fun c => m_unlike m h5 w.2.2.2.2.1 ?_, fun c => m_ways m ⟨h1, h2, h3, h4, h5, h6, h7, h8, h9, h10⟩ w (fun J hJ xJ => ?_), fun c => ?_, fun c => ?_, fun c => ?_⟩
  · unfold oTold at k0
    rw [if_neg (by omega), if_neg (by omega), if_neg (by omega), if_neg (by omega), if_neg (by omega), if_neg (by omega), if_neg (by omega), if_neg (by omega), if_neg (by omega), if_neg (by omega), if_neg (by omega), if_neg (by omega), if_neg (by omega), if_neg (by omega)] at k0
    exact k0
  all_goals first | (subst c; exact k0) | (subst c; exact k J hJ xJ)
