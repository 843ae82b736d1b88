/-! MODEL, part 14: which readers it could be -/
theorem m_readWord {S : St} {I : Im} {r : Rs} {x kind : Int} {Q : Hp → Prop} (m : Mst r) (hR : Rm S I) (w : WF S) (c : 0 ≤ x ∧ x ≤ (sWl S).length - 1) (k : ∀ I', rw_ I' (sayL kind (wd S x)) → Ex aRd I I' → Q (I', r)) : C_X12_readWord 363 x kind (I, r) Q := by
  have m' := m
  unfold Mst at m'
  have hwl := w.2.2.2.1.1
  obtain ⟨w1, w2⟩ := hR.2.2.2.1.at c
  have okw := wl_ok w.2.2.2.1 c
  rw [show (sWl S).getD x.toNat [] = wd S x from rfl] at w1 w2 okw
  generalize wd S x = wo at *
  apply G_X12_readWord
  unfold V_X12_readWord
  simp only [hK_p, hL_p, hI_p, hR_p, wI_p, cpI_p, hN_p, forall_eq, true_and, and_true, ne_eq, not_true_eq_false, not_false_eq_true, true_implies, false_implies, imp_false, implies_true, if_true, if_false, reduceCtorEq, m', w1, upI_self]
  refine ⟨⟨by omega, by omega⟩, ⟨by omega, by omega⟩, ?_⟩
  refine m_bring (by simp only [m']) (by simp only [m']) (by omega) (by simp only [m']; omega) (by omega) (by simp only [m']; omega) (by omega) (by simp only [m']; omega) (by simp only [m']; omega) (Or.inl (by omega)) ?_
  refine ⟨m.1, m_reads m (xs := wo) ⟨?_, ?_⟩ okw.2.2 (by omega) (fun J hJ xJ => k J hJ ?_)⟩
  · rw [cpy_at, if_neg (by omega), upI_self]
  · refine w2.shift (fun q q0 q1 => ?_)
    rw [cpy_at, if_pos (by omega), upI_ne (by omega)]
    congr 1
    omega
  · intro a q hq
    rw [xJ a q hq, cpy_at, if_neg (by omega), upI_ne (by omega)]
theorem m_isSaid {S : St} {I : Im} {r : Rs} {x : Int} {ys : List Int} {Q : Int → Hp → Prop} (m : Mst r) (hR : Rm S I) (w : WF S) (c : 0 ≤ x ∧ x ≤ (sWl S).length - 1) (hy : rw_ I ys) (hyl : ys.length ≤ 16) (k : Q (if ys = wd S x then 1 else 0) (I, r)) : C_X12_isSaid 363 x (I, r) Q := by
  have m' := m
  unfold Mst at m'
  have hwl := w.2.2.2.1.1
  obtain ⟨w1, w2⟩ := hR.2.2.2.1.at c
  have okw := wl_ok w.2.2.2.1 c
  rw [show (sWl S).getD x.toNat [] = wd S x from rfl] at w1 w2 okw
  generalize wd S x = xs at *
  have lp : ∀ b : Int, ((b = 1 ∧ ys.length = xs.length) ∨ (b = 0 ∧ ¬ ys.length = xs.length)) → Lp_X12_isSaid_21 363 x b 0 (I, r) Q := by
    intro b hb
    refine Lp_X12_isSaid_21_ind (fun x2 x3 h => ∃ t : Nat, x3 = t ∧ h = (I, r) ∧ t ≤ ys.length ∧ ((x2 = 1 ∧ ys.length = xs.length ∧ ∀ i : Nat, i < t → ys.getD i 0 = xs.getD i 0) ∨ (x2 = 0 ∧ ¬ ys = xs))) (fun x2 x3 _ => ys.length - x3.toNat) ?_ _ _ _ ⟨0, rfl, rfl, Nat.zero_le _, ?_⟩
    · intro P x2 x3 h hI ih
      obtain ⟨t, rfl, rfl, t1, t2⟩ := hI
      unfold BLp_X12_isSaid_21
      simp only [hK_p, hL_p, hI_p, hR_p, wI_p, cpI_p, hN_p, forall_eq, true_and, and_true, ne_eq, not_true_eq_false, not_false_eq_true, true_implies, false_implies, imp_false, implies_true, if_true, if_false, reduceCtorEq, m', hy.1]
      have fin : (t = ys.length ∨ x2 = 0) → (x2 = 0 ∨ x2 = 1) ∧ Q x2 (I, r) := by
        intro ht
        rcases t2 with ⟨z1, z2, z3⟩ | ⟨z1, z2⟩
        · rw [if_pos (seg_eq z2 (fun i hi => z3 i (by omega)))] at k
          rw [z1]
          exact ⟨Or.inr rfl, k⟩
        · rw [if_neg z2] at k
          rw [z1]
          exact ⟨Or.inl rfl, k⟩
      refine ⟨fun c => fin (Or.inl (by omega)), fun c => ⟨fun c2 => fin (Or.inr c2), fun c2 => ?_⟩⟩
      have ht : t < ys.length := by omega
      rcases t2 with ⟨z1, z2, z3⟩ | ⟨z1, z2⟩
      · have ra : I 369 (8 * x + t) = xs.getD t 0 := w2.getD (k := t) (by omega) 0
        have rb : I 380 t = ys.getD t 0 := by have := hy.2.getD ht 0; rw [Int.zero_add] at this; exact this
        rw [ra, rb]
        refine ⟨⟨by omega, by omega⟩, ⟨by omega, by omega⟩, ⟨by omega, by omega⟩, ⟨by omega, by omega⟩, fun c3 => ⟨⟨by omega, by omega⟩, ih _ _ _ ⟨t + 1, by omega, rfl, by omega, Or.inr ⟨rfl, fun z => c3 (by rw [z])⟩⟩ (by omega)⟩, fun c3 => ⟨⟨by omega, by omega⟩, ih _ _ _ ⟨t + 1, by omega, rfl, by omega, Or.inl ⟨rfl, z2, fun i hi => ?_⟩⟩ (by omega)⟩⟩
        rcases (show i < t ∨ i = t by omega) with h1 | h1
        · exact z3 i h1
        · rw [h1]; exact c3
      · exact absurd z1 c2
    · rcases hb with ⟨z1, z2⟩ | ⟨z1, z2⟩
      · exact Or.inl ⟨z1, z2, fun i hi => absurd hi (by omega)⟩
      · exact Or.inr ⟨z1, fun z => z2 (by rw [z])⟩
  apply G_X12_isSaid
  unfold V_X12_isSaid
  simp only [hK_p, hL_p, hI_p, hR_p, wI_p, cpI_p, hN_p, forall_eq, true_and, and_true, ne_eq, not_true_eq_false, not_false_eq_true, true_implies, false_implies, imp_false, implies_true, if_true, if_false, reduceCtorEq, m', hy.1, w1]
  exact ⟨⟨by omega, by omega⟩, fun c => lp 0 (Or.inr ⟨rfl, by omega⟩), fun c => lp 1 (Or.inl ⟨rfl, by omega⟩)⟩
theorem fitK_s {wl : List (List Int)} {kind t : Nat} {hd : List (Int × Int × Int)} (ht : t < hd.length) : fitK wl kind (hd.take (t + 1)) = (fitK wl kind (hd.take t) && (decide (sayL kind (wl.getD (hd[t]).1.toNat []) = wl.getD (hd[t]).2.1.toNat []) == decide ((hd[t]).2.2 ≠ 0))) := by
  unfold fitK
  rw [List.take_succ_eq_append_getElem ht, List.all_append]
  simp
theorem fitK_no {wl : List (List Int)} {kind : Nat} {hd : List (Int × Int × Int)} (t : Nat) (h : fitK wl kind (hd.take t) = false) : fitK wl kind hd = false := by
  unfold fitK at *
  rw [← List.take_append_drop t hd, List.all_append, h, Bool.false_and]
theorem m_couldBe {S : St} {I : Im} {r : Rs} {Q : Int → Hp → Prop} (m : Mst r) (hR : Rm S I) (w : WF S) (k : ∀ I', Rm S I' → Ex aRd I I' → Q (couldB S) (I', r)) : C_X12_couldBe 363 (I, r) Q := by
  have m' := m
  unfold Mst at m'
  obtain ⟨hl, hq⟩ := w.2.2.2.2.2.2.2.2.1
  have hwl := w.2.2.2.1.1
  unfold couldB at k
  apply G_X12_couldBe
  unfold V_X12_couldBe
  refine Lp_X12_couldBe_4_ind (fun x1 x2 h => ∃ (u : Nat) (J : Im), x2 = u ∧ u ≤ 6 ∧ h = (J, r) ∧ x1 = (setOf (fun kind => fitK (sWl S) kind (sHd S)) u : Nat) ∧ Ex aRd I J) (fun x1 x2 _ => 6 - x2.toNat) ?_ _ _ _ ⟨0, I, rfl, by omega, rfl, rfl, Ex.refl I⟩
  intro P x1 x2 h hI ih
  obtain ⟨u, J, rfl, u1, rfl, rfl, u2⟩ := hI
  unfold BLp_X12_couldBe_4
  refine ⟨fun c => ?_, fun c => ?_⟩
  · have hu : u = 6 := by omega
    subst hu
    exact k J (hR.kept (u2.mono (fun a q h => by omega))) u2
  have lt := setOf_lt (fun kind => fitK (sWl S) kind (sHd S)) u
  have l2 : 2 ^ u ≤ 2 ^ 6 := Nat.pow_le_pow_right (by omega) u1
  have step : setOf (fun kind => fitK (sWl S) kind (sHd S)) (u + 1) = if fitK (sWl S) u (sHd S) = true then setOf (fun kind => fitK (sWl S) kind (sHd S)) u ||| 2 ^ u else setOf (fun kind => fitK (sWl S) kind (sHd S)) u := rfl
  generalize setOf (fun kind => fitK (sWl S) kind (sHd S)) u = st at *
  have j73 : ∀ (K : Im) (b : Int), Ex aRd I K → ((b = 1 ∧ fitK (sWl S) u (sHd S) = true) ∨ (b = 0 ∧ fitK (sWl S) u (sHd S) = false)) → J_X12_couldBe_73 P 363 st u b (K, r) Q := by
    intro K b hK hb
    unfold J_X12_couldBe_73
    simp only [hK_p, hL_p, hI_p, hR_p, wI_p, cpI_p, hN_p, forall_eq, true_and, and_true, ne_eq, not_true_eq_false, not_false_eq_true, true_implies, false_implies, imp_false, implies_true, if_true, if_false, reduceCtorEq]
    have e0 := zOr_n (a := st) (b := 0) (by omega) (by omega)
    have e1 := zOr_n (a := st) (b := 2 ^ u) (by omega) (by omega)
    rw [Nat.or_zero] at e0
    rw [zShl_1 (by omega), e1, show (0 : Int) = ((0 : Nat) : Int) from rfl, e0]
    refine ⟨fun c3 => ⟨⟨by omega, by omega⟩, ih _ _ _ ⟨u + 1, K, by omega, by omega, rfl, ?_, hK⟩ (by omega)⟩, fun c3 => ⟨⟨by omega, by omega⟩, ih _ _ _ ⟨u + 1, K, by omega, by omega, rfl, ?_, hK⟩ (by omega)⟩⟩
    · rcases hb with ⟨z1, z2⟩ | ⟨z1, z2⟩
      · omega
      · rw [step, z2]; rfl
    · rcases hb with ⟨z1, z2⟩ | ⟨z1, z2⟩
      · rw [step, z2]; rfl
      · exact absurd z1 c3
  refine Lp_X12_couldBe_15_ind (fun x3 x4 h => ∃ (t : Nat) (K : Im), x4 = t ∧ t ≤ (sHd S).length ∧ h = (K, r) ∧ Ex aRd I K ∧ ((x3 = 1 ∧ fitK (sWl S) u ((sHd S).take t) = true) ∨ (x3 = 0 ∧ fitK (sWl S) u (sHd S) = false))) (fun x3 x4 _ => (sHd S).length - x4.toNat) ?_ _ _ _ ⟨0, J, rfl, Nat.zero_le _, rfl, u2, Or.inl ⟨rfl, rfl⟩⟩
  intro P15 x3 x4 h hI ih2
  obtain ⟨t, K, rfl, t1, rfl, t2, t3⟩ := hI
  have hRK : Rm S K := hR.kept (t2.mono (fun a q h => by omega))
  obtain ⟨h1, h2, h3, h4⟩ := hRK.2.2.2.2.2.2.2.2.1
  unfold BLp_X12_couldBe_15
  simp only [hK_p, hL_p, hI_p, hR_p, wI_p, cpI_p, hN_p, forall_eq, true_and, and_true, ne_eq, not_true_eq_false, not_false_eq_true, true_implies, false_implies, imp_false, implies_true, if_true, if_false, reduceCtorEq, m', h1]
  refine ⟨fun c2 => j73 K x3 t2 ?_, fun c2 => ⟨fun c3 => j73 K x3 t2 ?_, fun c3 => ?_⟩⟩
  · have ht : t = (sHd S).length := by omega
    rw [ht, List.take_length] at t3
    exact t3
  · rcases t3 with ⟨z1, z2⟩ | z
    · omega
    · exact Or.inr z
  have ht : t < (sHd S).length := by omega
  rcases t3 with ⟨z1, z2⟩ | ⟨z1, _⟩
  · have a1 : K 375 t = (sHd S)[t].1 := by have := h2.get (k := t) (by simpa using ht); rw [Int.zero_add] at this; rw [this]; simp
    have fs := fitK_s (wl := sWl S) (kind := u) ht
    rw [z2, Bool.true_and] at fs
    obtain ⟨q1, q2, q3⟩ := hq _ (List.getElem_mem ht)
    refine ⟨⟨by omega, by omega⟩, ?_⟩
    rw [a1]
    refine m_readWord m hRK w (by omega) (fun L hL xL => ?_)
    have hRL : Rm S L := hRK.kept (xL.mono (fun a q h => by omega))
    have exL : Ex aRd I L := t2.trans xL (fun _ _ z => z) (fun _ _ z => z)
    obtain ⟨g1, g2, g3, g4⟩ := hRL.2.2.2.2.2.2.2.2.1
    have a2 : L 376 t = (sHd S)[t].2.1 := by have := g3.get (k := t) (by simpa using ht); rw [Int.zero_add] at this; rw [this]; simp
    have a3 : L 377 t = (sHd S)[t].2.2 := by have := g4.get (k := t) (by simpa using ht); rw [Int.zero_add] at this; rw [this]; simp
    simp only [hK_p, hL_p, hI_p, hR_p, wI_p, cpI_p, hN_p, forall_eq, true_and, and_true, ne_eq, not_true_eq_false, not_false_eq_true, true_implies, false_implies, imp_false, implies_true, if_true, if_false, reduceCtorEq, m', a2]
    have okw := wl_ok w.2.2.2.1 (x := (sHd S)[t].1) (by omega)
    have sl := sayL_len u (wd S (sHd S)[t].1)
    unfold wd at sl
    refine ⟨⟨by omega, by omega⟩, m_isSaid m hRL w (by omega) hL (by unfold wd; omega) ?_⟩
    simp only [hK_p, hL_p, hI_p, hR_p, wI_p, cpI_p, hN_p, forall_eq, true_and, and_true, ne_eq, not_true_eq_false, not_false_eq_true, true_implies, false_implies, imp_false, implies_true, if_true, if_false, reduceCtorEq, m', a3]
    refine ⟨⟨by omega, by omega⟩, fun c4 => ⟨⟨by omega, by omega⟩, ih2 _ _ _ ⟨t + 1, L, by omega, by omega, rfl, exL, Or.inr ⟨rfl, fitK_no (t + 1) ?_⟩⟩ (by omega)⟩, fun c4 => ⟨⟨by omega, by omega⟩, ih2 _ _ _ ⟨t + 1, L, by omega, by omega, rfl, exL, Or.inl ⟨rfl, ?_⟩⟩ (by omega)⟩⟩
    · rw [fs]
      unfold wd at c4
      by_cases e : sayL u ((sWl S).getD (sHd S)[t].1.toNat []) = (sWl S).getD (sHd S)[t].2.1.toNat []
      · rw [if_pos e] at c4
        have : (sHd S)[t].2.2 = 0 := by omega
        rw [decide_eq_true e, this]; rfl
      · rw [if_neg e] at c4
        have : (sHd S)[t].2.2 = 1 := by omega
        rw [decide_eq_false e, this]; rfl
    · rw [fs]
      unfold wd at c4
      by_cases e : sayL u ((sWl S).getD (sHd S)[t].1.toNat []) = (sWl S).getD (sHd S)[t].2.1.toNat []
      · rw [if_pos e] at c4
        rw [decide_eq_true e, ← c4]; rfl
      · rw [if_neg e] at c4
        rw [decide_eq_false e, ← c4]; rfl
  · exact absurd z1 c3
