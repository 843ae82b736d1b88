/-! MODEL, part 12: what is tried -/
theorem sayN_7 (kind : Int) {xs : List Int} (h : xs.length ≤ 60) {n : Nat} (hn : n ≤ 7) : (sayN kind xs n).length ≤ 7680 := by
  have h1 := sayN_len kind xs n
  have h2 : 2 ^ n ≤ 2 ^ 7 := Nat.pow_le_pow_right (by omega) hn
  have h3 : 2 ^ n * xs.length ≤ 2 ^ 7 * 60 := Nat.mul_le_mul h2 h
  omega
theorem m_readOn {n : NS} {I : Im} {r : Rs} {kind : Int} {t : Nat} {Q : Hp → Prop} (m : Mst r) (hn : NSm (I 370) 0 n) (ok : NSok n) (ht : t ≤ 8) (k : ∀ I', rw_ I' (sayN kind n.1 t) → Ex aRd I I' → Q (I', r)) : C_X12_readOn 363 kind t (I, r) Q := by
  apply G_X12_readOn
  unfold V_X12_readOn
  refine ⟨m.1, m_begin m hn ok (fun J hJ xJ => ?_)⟩
  refine Lp_X12_readOn_6_ind (fun x h => ∃ (u : Nat) (K : Im), x = u ∧ h = (K, r) ∧ u ≤ t ∧ rw_ K (sayN kind n.1 u) ∧ Ex aRd I K) (fun x _ => t - x.toNat) ?_ _ _ ⟨0, J, rfl, rfl, Nat.zero_le _, hJ, xJ⟩
  intro P x h hI ih
  obtain ⟨u, K, rfl, rfl, u1, u2, u3⟩ := hI
  unfold BLp_X12_readOn_6
  refine ⟨fun c => ?_, fun c => ⟨m.1, m_reads m u2 (sayN_fig kind ok.2.1 u) (sayN_7 kind ok.1 (by omega)) (fun L hL xL => ⟨⟨by omega, by omega⟩, ih _ _ ⟨u + 1, L, by omega, rfl, by omega, hL, u3.trans xL (fun _ _ z => z) (fun _ _ z => z)⟩ (by omega)⟩)⟩⟩
  have : u = t := by omega
  subst this
  exact k K u2 u3
theorem m_isTried {a b : Int} {h : Hp} {Q : Int → Hp → Prop} (k1 : (0 ≤ a ∧ a ≤ 5) ∧ 0 ≤ b ∧ b ≤ 8 → Q 1 h) (k0 : ¬ ((0 ≤ a ∧ a ≤ 5) ∧ 0 ≤ b ∧ b ≤ 8) → Q 0 h) : C_X12_isTried a b h Q := by
  apply G_X12_isTried
  unfold V_X12_isTried
  refine m_is (fun c => ⟨fun z => absurd z (by decide), fun _ => ?_⟩) (fun c => ⟨fun _ => k0 (fun z => c z.1), fun z => absurd rfl z⟩)
  exact m_is (fun c2 => ⟨fun z => absurd z (by decide), fun _ => k1 ⟨c, c2⟩⟩) (fun c2 => ⟨fun _ => k0 (fun z => c2 z.2), fun z => absurd rfl z⟩)
theorem aRd_sc {I I' : Im} (h : Ex aRd I I') : Ex aSc I I' := h.mono (fun a q h => by omega)
theorem aRd_m {I I' : Im} (h : Ex aRd I I') : Ex aM I I' := h.mono (fun a q h => by omega)
theorem m_length {S : St} {I : Im} {r : Rs} {kind n : Int} {Q : Int → Hp → Prop} (m : Mst r) (hR : Rm S I) (w : WF S) (k : ∀ I', Rm S I' → Ex aM I I' → Q (oLength S kind n) (I', r)) : C_X12_length 363 kind n (I, r) Q := by
  have m' := m
  unfold Mst at m'
  apply G_X12_length
  unfold V_X12_length
  unfold oLength at k
  refine m_isTried (fun c => ⟨fun _ => ⟨m.1, ?_⟩, fun z => absurd z (by decide)⟩) (fun c => ⟨fun z => absurd rfl z, fun _ => ?_⟩)
  · rw [if_pos c] at k
    have en : n = ((n.toNat : Nat) : Int) := (toNat_cast c.2.1).symm
    rw [en]
    refine m_readOn m hR.2.2.2.2.1 w.2.2.2.2.1 (by omega) (fun J hJ xJ => ?_)
    simp only [hK_p, hL_p, hI_p, hR_p, wI_p, cpI_p, hN_p, forall_eq, true_and, and_true, ne_eq, not_true_eq_false, not_false_eq_true, true_implies, false_implies, imp_false, implies_true, if_true, if_false, reduceCtorEq, m', hJ.1]
    exact k J (hR.kept (aRd_sc xJ)) (aRd_m xJ)
  · rw [if_neg c] at k
    exact k I hR (Ex.refl I)
theorem m_figure {S : St} {I : Im} {r : Rs} {kind n p : Int} {Q : Int → Hp → Prop} (m : Mst r) (hR : Rm S I) (w : WF S) (k : ∀ I', Rm S I' → Ex aM I I' → Q (oFigure S kind n p) (I', r)) : C_X12_figure 363 kind n p (I, r) Q := by
  have m' := m
  unfold Mst at m'
  apply G_X12_figure
  unfold V_X12_figure
  unfold oFigure at k
  refine m_isTried (fun c => ⟨fun z => absurd z (by decide), fun _ => ?_⟩) (fun c => ⟨fun _ => ?_, fun z => absurd rfl z⟩)
  · refine m_is (fun c2 => ⟨fun _ => ⟨m.1, ?_⟩, fun z => absurd z (by decide)⟩) (fun c2 => ⟨fun z => absurd rfl z, fun _ => ?_⟩)
    · rw [if_pos ⟨c, c2⟩] at k
      have en : n = ((n.toNat : Nat) : Int) := (toNat_cast c.2.1).symm
      rw [en]
      refine m_readOn m hR.2.2.2.2.1 w.2.2.2.2.1 (by omega) (fun J hJ xJ => ?_)
      simp only [hK_p, hL_p, hI_p, hR_p, wI_p, cpI_p, hN_p, forall_eq, true_and, and_true, ne_eq, not_true_eq_false, not_false_eq_true, true_implies, false_implies, imp_false, implies_true, if_true, if_false, reduceCtorEq, m', hJ.1]
      have k := k J (hR.kept (aRd_sc xJ)) (aRd_m xJ)
      refine ⟨fun c3 => ?_, fun c3 => ⟨⟨by omega, by omega⟩, ?_⟩⟩
      · rw [getD_ge (by omega)] at k
        exact k
      · have e := hJ.2.at c2.1 (by omega) (-1)
        rw [Int.zero_add] at e
        rw [e]
        exact k
    · rw [if_neg (fun z => c2 z.2)] at k
      exact k I hR (Ex.refl I)
  · rw [if_neg (fun z => c z.1)] at k
    exact k I hR (Ex.refl I)
theorem m_oftenThere {I : Im} {r : Rs} {xs : List Int} {f : Int} {Q : Int → Hp → Prop} (m : Mst r) (hw : rw_ I xs) (hl : xs.length ≤ 15360) (k : Q (cnt f xs) (I, r)) : C_X12_oftenThere 363 f (I, r) Q := by
  have m' := m
  unfold Mst at m'
  apply G_X12_oftenThere
  unfold V_X12_oftenThere
  refine Lp_X12_oftenThere_4_ind (fun x2 x3 h => ∃ u : Nat, x3 = u ∧ h = (I, r) ∧ u ≤ xs.length ∧ x2 = cnt f (xs.take u)) (fun x2 x3 _ => xs.length - x3.toNat) ?_ _ _ _ ⟨0, rfl, rfl, Nat.zero_le _, rfl⟩
  intro P x2 x3 h hI ih
  obtain ⟨u, rfl, rfl, u1, rfl⟩ := hI
  unfold BLp_X12_oftenThere_4
  have hcl := cnt_le f (xs.take u)
  rw [List.length_take] at hcl
  simp only [hK_p, hL_p, hI_p, hR_p, wI_p, cpI_p, hN_p, forall_eq, true_and, and_true, ne_eq, not_true_eq_false, not_false_eq_true, true_implies, false_implies, imp_false, implies_true, if_true, if_false, reduceCtorEq, m', hw.1]
  refine ⟨fun c => ?_, fun c => ?_⟩
  · rw [List.take_of_length_le (by omega)]
    exact k
  · have hul : u < xs.length := by omega
    have ru : I 380 (u : Int) = xs[u] := by have := hw.2.get hul; rw [Int.zero_add] at this; exact this
    have et : cnt f (xs.take (u + 1)) = cnt f (xs.take u) + (if xs[u] = f then 1 else 0) := by
      rw [List.take_succ_eq_append_getElem hul, cnt_snoc]
    rw [ru]
    refine ⟨⟨by omega, by omega⟩, fun c3 => ⟨⟨by omega, by omega⟩, ⟨by omega, by omega⟩, ih _ _ _ ⟨u + 1, by omega, rfl, by omega, ?_⟩ (by omega)⟩, fun c3 => ⟨⟨by omega, by omega⟩, ⟨by omega, by omega⟩, ih _ _ _ ⟨u + 1, by omega, rfl, by omega, ?_⟩ (by omega)⟩⟩
    · rw [et, if_neg c3]; omega
    · rw [et, if_pos c3]; omega
theorem m_often {S : St} {I : Im} {r : Rs} {kind n f : Int} {Q : Int → Hp → Prop} (m : Mst r) (hR : Rm S I) (w : WF S) (k : ∀ I', Rm S I' → Ex aM I I' → Q (oOften S kind n f) (I', r)) : C_X12_often 363 kind n f (I, r) Q := by
  apply G_X12_often
  unfold V_X12_often
  unfold oOften at k
  refine m_isTried (fun c => ⟨fun z => absurd z (by decide), fun _ => ?_⟩) (fun c => ⟨fun _ => ?_, fun z => absurd rfl z⟩)
  · refine m_is (fun c2 => ⟨fun _ => ⟨m.1, ?_⟩, fun z => absurd z (by decide)⟩) (fun c2 => ⟨fun z => absurd rfl z, fun _ => ?_⟩)
    · rw [if_pos ⟨c, c2⟩] at k
      have en : n = ((n.toNat : Nat) : Int) := (toNat_cast c.2.1).symm
      rw [en]
      refine m_readOn m hR.2.2.2.2.1 w.2.2.2.2.1 (by omega) (fun J hJ xJ => ⟨m.1, m_oftenThere m hJ (sayN_60 kind w.2.2.2.2.1.1 (by omega)) ?_⟩)
      exact k J (hR.kept (aRd_sc xJ)) (aRd_m xJ)
    · rw [if_neg (fun z => c2 z.2)] at k
      exact k I hR (Ex.refl I)
  · rw [if_neg (fun z => c z.1)] at k
    exact k I hR (Ex.refl I)
theorem m_first {S : St} {I : Im} {r : Rs} {kind f : Int} {Q : Int → Hp → Prop} (m : Mst r) (hR : Rm S I) (w : WF S) (k : ∀ I', Rm S I' → Ex aM I I' → Q (oFirst S kind f) (I', r)) : C_X12_first 363 kind f (I, r) Q := by
  have ok := w.2.2.2.2.1
  apply G_X12_first
  unfold V_X12_first
  unfold oFirst at k
  refine m_is (fun c => ⟨fun z => absurd z (by decide), fun _ => ?_⟩) (fun c => ⟨fun _ => ?_, fun z => absurd rfl z⟩)
  · refine m_is (fun c2 => ⟨fun _ => ⟨m.1, ?_⟩, fun z => absurd z (by decide)⟩) (fun c2 => ⟨fun z => absurd rfl z, fun _ => ?_⟩)
    · rw [if_pos ⟨c, c2⟩] at k
      refine m_begin m hR.2.2.2.2.1 ok (fun J hJ xJ => ?_)
      refine Lp_X12_first_28_ind (fun x h => ∃ (u : Nat) (K : Im), x = u ∧ h = (K, r) ∧ u ≤ 9 ∧ (u ≤ 8 → rw_ K (sayN kind (sNw S).1 u)) ∧ Ex aRd I K ∧ fsN kind f (sNw S).1 9 0 = fsN kind f (sNw S).1 (9 - u) u) (fun x _ => 9 - x.toNat) ?_ _ _ ⟨0, J, rfl, rfl, by omega, fun _ => hJ, xJ, rfl⟩
      intro P x h hI ih
      obtain ⟨u, K, rfl, rfl, u1, u2, u3, u4⟩ := hI
      unfold BLp_X12_first_28
      refine ⟨fun c3 => ?_, fun c3 => ⟨m.1, m_oftenThere m (u2 (by omega)) (sayN_60 kind ok.1 (by omega)) ?_⟩⟩
      · have : u = 9 := by omega
        subst this
        rw [u4] at k
        exact k K (hR.kept (aRd_sc u3)) (aRd_m u3)
      · obtain ⟨v, hv⟩ : ∃ v, 9 - u = v + 1 := ⟨8 - u, by omega⟩
        rw [hv] at u4
        have e : fsN kind f (sNw S).1 (v + 1) u = if 0 < cnt f (sayN kind (sNw S).1 u) then (u : Int) else fsN kind f (sNw S).1 v (u + 1) := rfl
        rw [e] at u4
        refine ⟨fun c4 => ?_, fun c4 => ?_⟩
        · rw [if_neg (by omega)] at u4
          refine ⟨fun c5 => ⟨⟨by omega, by omega⟩, ih _ _ ⟨u + 1, K, by omega, rfl, by omega, fun z => absurd z (by omega), u3, by rw [u4]; congr 1; omega⟩ (by omega)⟩, fun c5 => ⟨m.1, m_reads m (u2 (by omega)) (sayN_fig kind ok.2.1 u) (sayN_7 kind ok.1 (by omega)) (fun L hL xL => ⟨⟨by omega, by omega⟩, ih _ _ ⟨u + 1, L, by omega, rfl, by omega, fun _ => hL, u3.trans xL (fun _ _ z => z) (fun _ _ z => z), by rw [u4]; congr 1; omega⟩ (by omega)⟩)⟩⟩
        · rw [if_pos (by omega)] at u4
          rw [u4] at k
          exact k K (hR.kept (aRd_sc u3)) (aRd_m u3)
    · rw [if_neg (fun z => c2 z.2)] at k
      exact k I hR (Ex.refl I)
  · rw [if_neg (fun z => c z.1)] at k
    exact k I hR (Ex.refl I)
/-- two lists in rows of numbers are the same just if their lengths and figures are -/
theorem seg_eq {xs ys : List Int} (hl : xs.length = ys.length) (h : ∀ i : Nat, i < xs.length → xs.getD i 0 = ys.getD i 0) : xs = ys := by
  apply List.ext_getElem hl
  intro i h1 h2
  have := h i h1
  rw [List.getD_eq_getElem?_getD, List.getD_eq_getElem?_getD, List.getElem?_eq_getElem h1, List.getElem?_eq_getElem h2] at this
  exact this
theorem m_isPast {I : Im} {r : Rs} {xs ys : List Int} {j : Nat} {Q : Int → Hp → Prop} (m : Mst r) (hw : rw_ I xs) (hp : I 384 j = ys.length) (hs : Seg (I 383) (60 * j) ys) (hj : j < 61) (hx : xs.length ≤ 60) (hy : ys.length ≤ 60) (k : Q (if ys = xs then 1 else 0) (I, r)) : C_X12_isPast 363 j (I, r) Q := by
  have m' := m
  unfold Mst at m'
  have lp : ∀ b : Int, ((b = 1 ∧ ys.length = xs.length) ∨ (b = 0 ∧ ¬ ys.length = xs.length)) → Lp_X12_isPast_21 363 j b 0 (I, r) Q := by
    intro b hb
    refine Lp_X12_isPast_21_ind (fun x2 x3 h => ∃ t : Nat, x3 = t ∧ h = (I, r) ∧ t ≤ xs.length ∧ ((x2 = 1 ∧ ys.length = xs.length ∧ ∀ i : Nat, i < t → ys.getD i 0 = xs.getD i 0) ∨ (x2 = 0 ∧ ¬ ys = xs))) (fun x2 x3 _ => xs.length - x3.toNat) ?_ _ _ _ ⟨0, rfl, rfl, Nat.zero_le _, ?_⟩
    · intro P x2 x3 h hI ih
      obtain ⟨t, rfl, rfl, t1, t2⟩ := hI
      unfold BLp_X12_isPast_21
      simp only [hK_p, hL_p, hI_p, hR_p, wI_p, cpI_p, hN_p, forall_eq, true_and, and_true, ne_eq, not_true_eq_false, not_false_eq_true, true_implies, false_implies, imp_false, implies_true, if_true, if_false, reduceCtorEq, m', hw.1]
      have fin : (t = xs.length ∨ x2 = 0) → (x2 = 0 ∨ x2 = 1) ∧ Q x2 (I, r) := by
        intro ht
        rcases t2 with ⟨z1, z2, z3⟩ | ⟨z1, z2⟩
        · have : t = xs.length := by omega
          rw [if_pos (seg_eq z2 (fun i hi => z3 i (by omega)))] at k
          rw [z1]
          exact ⟨Or.inr rfl, k⟩
        · rw [if_neg z2] at k
          rw [z1]
          exact ⟨Or.inl rfl, k⟩
      refine ⟨fun c => fin (Or.inl (by omega)), fun c => ⟨fun c2 => fin (Or.inr c2), fun c2 => ?_⟩⟩
      have ht : t < xs.length := by omega
      rcases t2 with ⟨z1, z2, z3⟩ | ⟨z1, z2⟩
      · have ra : I 383 (60 * (j : Int) + t) = ys.getD t 0 := hs.getD (by omega) 0
        have rb : I 380 t = xs.getD t 0 := by have := hw.2.getD ht 0; rw [Int.zero_add] at this; exact this
        rw [ra, rb]
        refine ⟨⟨by omega, by omega⟩, ⟨by omega, by omega⟩, ⟨by omega, by omega⟩, ⟨by omega, by omega⟩, fun c3 => ⟨⟨by omega, by omega⟩, ih _ _ _ ⟨t + 1, by omega, rfl, by omega, Or.inr ⟨rfl, fun z => c3 (by rw [z])⟩⟩ (by omega)⟩, fun c3 => ⟨⟨by omega, by omega⟩, ih _ _ _ ⟨t + 1, by omega, rfl, by omega, Or.inl ⟨rfl, z2, fun i hi => ?_⟩⟩ (by omega)⟩⟩
        rcases (show i < t ∨ i = t by omega) with h1 | h1
        · exact z3 i h1
        · rw [h1]; exact c3
      · exact absurd z1 c2
    · rcases hb with ⟨z1, z2⟩ | ⟨z1, z2⟩
      · exact Or.inl ⟨z1, z2, fun i hi => absurd hi (by omega)⟩
      · exact Or.inr ⟨z1, fun z => z2 (by rw [z])⟩
  apply G_X12_isPast
  unfold V_X12_isPast
  simp only [hK_p, hL_p, hI_p, hR_p, wI_p, cpI_p, hN_p, forall_eq, true_and, and_true, ne_eq, not_true_eq_false, not_false_eq_true, true_implies, false_implies, imp_false, implies_true, if_true, if_false, reduceCtorEq, m', hw.1, hp]
  exact ⟨⟨by omega, by omega⟩, fun c => lp 0 (Or.inr ⟨rfl, by omega⟩), fun c => lp 1 (Or.inl ⟨rfl, by omega⟩)⟩
theorem sayN3_60 {xs : List Int} (h : xs.length ≤ 60) : ∀ n, (sayN 3 xs n).length ≤ 60
  | 0 => h
  | n + 1 => by have := sayL_3 (sayN3_60 h n); show (sayL 3 (sayN 3 xs n)).length ≤ 60; omega
theorem m_earlier {I : Im} {r : Rs} {row : List Int} {n : Nat} {Q : Int → Hp → Prop} (m : Mst r) (hrow : row.length ≤ 60) (hw : rw_ I (sayN 3 row n)) (hn : n ≤ 60) (hp : ∀ j : Nat, j < n → I 384 j = (sayN 3 row j).length ∧ Seg (I 383) (60 * j) (sayN 3 row j)) (k : Q (erl row n n 0) (I, r)) : C_X12_earlier 363 n (I, r) Q := by
  apply G_X12_earlier
  unfold V_X12_earlier
  refine Lp_X12_earlier_2_ind (fun x h => ∃ j : Nat, x = j ∧ h = (I, r) ∧ j ≤ n ∧ erl row n n 0 = erl row n (n - j) j) (fun x _ => n - x.toNat) ?_ _ _ ⟨0, rfl, rfl, Nat.zero_le _, rfl⟩
  intro P x h hI ih
  obtain ⟨j, rfl, rfl, j1, j2⟩ := hI
  unfold BLp_X12_earlier_2
  refine ⟨fun c => ?_, fun c => ⟨m.1, ?_⟩⟩
  · have : j = n := by omega
    rw [j2, this, Nat.sub_self] at k
    exact k
  · obtain ⟨h1, h2⟩ := hp j (by omega)
    obtain ⟨v, hv⟩ : ∃ v, n - j = v + 1 := ⟨n - j - 1, by omega⟩
    rw [hv] at j2
    have e : erl row n (v + 1) j = if sayN 3 row j = sayN 3 row n then (j : Int) else erl row n v (j + 1) := rfl
    rw [e] at j2
    refine m_isPast m hw h1 h2 (by omega) (sayN3_60 hrow n) (sayN3_60 hrow j) ?_
    by_cases c2 : sayN 3 row j = sayN 3 row n
    · rw [if_pos c2] at j2 ⊢
      refine ⟨fun z => absurd z (by decide), fun _ => ?_⟩
      rw [j2] at k; exact k
    · rw [if_neg c2] at j2 ⊢
      refine ⟨fun _ => ⟨⟨by omega, by omega⟩, ih _ _ ⟨j + 1, by omega, rfl, by omega, by rw [j2]; congr 1; omega⟩ (by omega)⟩, fun z => absurd rfl z⟩
theorem m_again {S : St} {I : Im} {r : Rs} {q : Int} {Q : Int → Hp → Prop} (m : Mst r) (hR : Rm S I) (w : WF S) (k : ∀ I', Rm S I' → Ex aM I I' → Q (oAgain S q) (I', r)) : C_X12_again 363 q (I, r) Q := by
  have m' := m
  unfold Mst at m'
  have ok := w.2.2.2.2.1
  apply G_X12_again
  unfold V_X12_again
  unfold oAgain at k
  refine m_is (fun c => ⟨fun _ => ⟨m.1, ?_⟩, fun z => absurd z (by decide)⟩) (fun c => ⟨fun z => absurd rfl z, fun _ => ?_⟩)
  · rw [if_pos c] at k
    refine m_begin m hR.2.2.2.2.1 ok (fun J hJ xJ => ?_)
    generalize hrow : (sNw S).1 = row at *
    have hr60 : row.length ≤ 60 := by rw [← hrow]; exact ok.1
    have hrf : figs row := by rw [← hrow]; exact ok.2.1
    have exS : ∀ K : Im, Ex (fun a k => aRd a k ∨ a = 383 ∨ a = 384) I K → Rm S K ∧ Ex aM I K := fun K hK => ⟨hR.kept (hK.mono (fun a q h => by omega)), hK.mono (fun a q h => by omega)⟩
    refine Lp_X12_again_18_ind (fun x h => ∃ (u : Nat) (K : Im), x = u ∧ h = (K, r) ∧ u ≤ 61 ∧ rw_ K (sayN 3 row u) ∧ Ex (fun a k => aRd a k ∨ a = 383 ∨ a = 384) I K ∧ agN row q 61 0 = agN row q (61 - u) u ∧ ∀ j : Nat, j < u → K 384 j = (sayN 3 row j).length ∧ Seg (K 383) (60 * j) (sayN 3 row j)) (fun x _ => 61 - x.toNat) ?_ _ _ ⟨0, J, rfl, rfl, by omega, hJ, xJ.mono (fun a q h => Or.inl h), rfl, fun j hj => absurd hj (by omega)⟩
    intro P x h hI ih
    obtain ⟨u, K, rfl, rfl, u1, u2, u3, u4, u5⟩ := hI
    obtain ⟨g1, g2⟩ := exS K u3
    unfold BLp_X12_again_18
    refine ⟨fun c3 => ?_, fun c3 => ⟨m.1, m_earlier m hr60 u2 (by omega) u5 ?_⟩⟩
    · have : u = 61 := by omega
      subst this
      rw [u4] at k
      exact k K g1 g2
    · obtain ⟨v, hv⟩ : ∃ v, 61 - u = v + 1 := ⟨60 - u, by omega⟩
      rw [hv] at u4
      have e : agN row q (v + 1) u = if erl row u u 0 = -1 then agN row q v (u + 1) else (if q = 0 then (u : Int) else erl row u u 0) := rfl
      rw [e] at u4
      have hlu := sayN3_60 hr60 u
      refine ⟨fun c4 => ?_, fun c4 => ?_⟩
      · rw [if_pos c4] at u4
        have f0 : upI K 384 (u : Int) ((sayN 3 row u).length : Int) 363 29 = (sayN 3 row u).length := by rw [upI_ne (by omega), u2.1]
        simp only [hK_p, hL_p, hI_p, hR_p, wI_p, cpI_p, hN_p, forall_eq, true_and, and_true, ne_eq, not_true_eq_false, not_false_eq_true, true_implies, false_implies, imp_false, implies_true, if_true, if_false, reduceCtorEq, m', u2.1, f0]
        refine ⟨⟨by omega, by omega⟩, ⟨by omega, by omega⟩, ?_⟩
        refine m_bring (by simp only [m']) (by simp only [m']) (by omega) (by simp only [m']; omega) (by omega) (by simp only [m']; omega) (by omega) (by simp only [m']; omega) (by simp only [m']; omega) (Or.inl (by omega)) ?_
        refine ⟨m.1, m_reads m (xs := sayN 3 row u) ⟨?_, ?_⟩ (sayN_fig 3 hrf u) (by omega) (fun L hL xL => ⟨⟨by omega, by omega⟩, ih _ _ ⟨u + 1, L, by omega, rfl, by omega, hL, fun a q hq => ?_, by rw [u4]; congr 1; omega, fun j hj => ?_⟩ (by omega)⟩)⟩
        · rw [cpy_at, if_neg (by omega), f0]
        · refine u2.2.congr (fun q q0 q1 => ?_)
          rw [cpy_at, if_neg (by omega), upI_ne (by omega)]
        · rw [xL a q (by omega), cpy_at, if_neg (by omega), upI_ne (by omega), u3 a q hq]
        · rw [xL 384 j (by omega), cpy_at, if_neg (by omega)]
          rcases (show j < u ∨ j = u by omega) with h1 | h1
          · obtain ⟨y1, y2⟩ := u5 j h1
            have hlj := sayN3_60 hr60 j
            refine ⟨by rw [upI_ne (by omega)]; exact y1, y2.congr (fun q q0 q1 => ?_)⟩
            rw [xL 383 q (by omega), cpy_at, if_neg (by omega), upI_ne (by omega)]
          · subst h1
            refine ⟨by rw [upI_self], u2.2.shift (fun q q0 q1 => ?_)⟩
            rw [xL 383 _ (by omega), cpy_at, if_pos (by omega), upI_ne (by omega)]
            congr 1
            omega
      · rw [if_neg c4] at u4
        refine ⟨fun c5 => ?_, fun c5 => ?_⟩
        · rw [if_neg c5] at u4
          rw [u4] at k
          exact k K g1 g2
        · rw [if_pos c5] at u4
          rw [u4] at k
          exact k K g1 g2
  · rw [if_neg c] at k
    exact k I hR (Ex.refl I)
