/-! COMPONENT, part 21: again, on -/
theorem c_comesAgain {I : Im} {r : Rs} {p o cp co c3 : Nat} {Lp Lo L3 : Int} {row : List Int} {Q : Int → Hp → Prop} (c : Cs r) (t : Tr r p o cp co c3 Lp Lo L3) (h : fg I 40 41 row) (hf : figs row) (hl : row.length ≤ 60) (k : ∀ I' r', Dyn r' → Rx r r' → I' 230 3 = agN row 1 61 0 → Ex aTr I I' → Q (agN row 0 61 0) (I', r')) : C_X9_comesAgain 230 40 (I, r) Q := by
  have b1 := c.2.2.2.2.2.2.2.2.2.1.1
  obtain ⟨b2, b3, b4⟩ := c.2.2.2.2.2.2.2.2.2.1.2.1
  obtain ⟨a1, a2⟩ := rnd c t (show 0 < 61 by omega)
  have a3 := cR_rng t (show 0 < 61 by omega)
  have e0 : rR r 235 0 = 236 := a1
  apply G_X9_comesAgain
  unfold V_X9_comesAgain
  simp only [hK_p, hL_p, hI_p, hR_p, wI_p, cpI_p, hN_p, forall_eq, true_and, and_true, ne_eq, not_true_eq_false, not_false_eq_true, true_implies, false_implies, imp_false, implies_true, if_true, if_false, reduceCtorEq, b1, b2, b3, b4, e0]
  refine ⟨by omega, a2.1, c_copyFrom (n := LR L3 0) (c := cR c3 0) a2 c.2.2.2.2.1.2.2.1 (by omega) h (by omega) (by omega) (fun J hJ xJ => ?_)⟩
  refine Lp_X9_comesAgain_12_ind (fun x h => ∃ (u : Nat) (K : Im) (r' : Rs) (d3 : Nat) (M3 : Int), x = ((u + 1 : Nat) : Int) ∧ u ≤ 60 ∧ h = (K, r') ∧ Tr r' p o cp co d3 Lp Lo M3 ∧ Rx r r' ∧ Ex aTr I K ∧ (u = 0 ∨ K 230 3 = -1) ∧ (∀ q, agN row q 61 0 = agN row q (60 - u) (u + 1)) ∧ ∀ j : Nat, j ≤ u → fg K (236 + 2 * j) (cR d3 j) (sayN 3 row j) ∧ ((sayN 3 row j).length : Int) ≤ LR M3 j) (fun x _ => 61 - x.toNat) ?_ _ _ ⟨0, J, r, c3, L3, rfl, by omega, rfl, t, Rx.refl r, xJ.mono (fun a q z => by omega), Or.inl rfl, fun q => if_pos rfl, fun j hj => ?_⟩
  · intro P x hh hI ih
    obtain ⟨u, K, r', d3, M3, rfl, u1, rfl, u2, u3, u4, u5, u6, u7⟩ := hI
    have c' := c.of u3
    have f1 := c'.2.2.2.2.2.2.2.2.2.1.1
    obtain ⟨f2, f3, f4⟩ := c'.2.2.2.2.2.2.2.2.2.1.2.1
    unfold BLp_X9_comesAgain_12
    refine ⟨fun z => ?_, fun z => ?_⟩
    · have hu : u = 60 := by omega
      subst hu
      have k := k K r' ⟨_, _, _, _, _, _, _, _, u2⟩ u3 (by rw [u6]; rcases u5 with z1 | z1; omega; exact z1) u4
      rw [u6] at k
      exact k
    · have hu : u + 1 < 61 := by omega
      obtain ⟨g1, g2⟩ := rnd c' u2 (show u < 61 by omega)
      obtain ⟨g3, g4⟩ := rnd c' u2 hu
      have g5 := cR_rng u2 (show u < 61 by omega)
      have g6 := cR_rng u2 hu
      have g7 := cR_ne u2 (show u < 61 by omega) hu (by omega)
      have hN := u2.2.2.2.2.2.2.2.2.2.2.1
      have l60 := sayN3_60 hl u
      have e1 : ((u + 1 : Nat) : Int) - 1 = (u : Int) := by omega
      simp only [hK_p, hL_p, hI_p, hR_p, wI_p, cpI_p, hN_p, forall_eq, true_and, and_true, ne_eq, not_true_eq_false, not_false_eq_true, true_implies, false_implies, imp_false, implies_true, if_true, if_false, reduceCtorEq, f1, f2, f3, f4, e1, g1, g3]
      refine ⟨by omega, by omega, by omega, c_sayG (a := 236 + 2 * u) (b := 236 + 2 * (u + 1)) g2 g4 g7.1 (u7 u (Nat.le_refl _)).1 (sayN_fig 3 hf u) (u7 u (Nat.le_refl _)).2 (by omega) (by omega) (by omega) (by omega) (fun L r'' dd nn gg hL xL => ?_)⟩
      -- the figure's own room, new or old
      have fact : ∃ (e3 : Nat) (N3 : Int), Tr r'' p o cp co e3 Lp Lo N3 ∧ Rx r' r'' ∧ dd = cR e3 (u + 1) ∧ nn = LR N3 (u + 1) ∧ 2 * ((sayN 3 row u).length : Int) ≤ nn ∧ (∀ j : Nat, j ≤ u → cR e3 j = cR d3 j ∧ LR N3 j = LR M3 j) := by
        by_cases hz : u = 0
        · subst hz
          have q1 : cR d3 (0 + 1) = d3 := rfl
          have q2 : LR M3 (0 + 1) = M3 := rfl
          rw [q1, q2] at gg
          obtain ⟨t1, t2, t3⟩ := u2.grow3 (by omega) gg
          refine ⟨dd, nn, t1, t2, rfl, rfl, t3, fun j hj => ?_⟩
          have : j = 0 := by omega
          subst this
          exact ⟨rfl, rfl⟩
        · have q2 : LR M3 (u + 1) = 60 := if_neg (by omega)
          have l30 : (sayN 3 row u).length ≤ 30 := by
            obtain ⟨v, hv⟩ : ∃ v, u = v + 1 := ⟨u - 1, by omega⟩
            subst hv
            exact sayL_3 (sayN3_60 hl v)
          rcases gg with ⟨w1, w2, w3, w4⟩ | ⟨w1, _⟩
          · subst w1
            exact ⟨d3, M3, u2, Rx.refl _, w2, w3, by omega, fun j hj => ⟨rfl, rfl⟩⟩
          · omega
      obtain ⟨e3, N3, t1, t2, t3, t4, t5, t6⟩ := fact
      have c'' := c'.of t2
      have sl := sayL_len 3 (sayN 3 row u)
      have xL' : Ex aTr I L := u4.trans xL (fun _ _ z => z) (fun a q z => by omega)
      have allg : ∀ j : Nat, j ≤ u + 1 → fg L (236 + 2 * j) (cR e3 j) (sayN 3 row j) ∧ ((sayN 3 row j).length : Int) ≤ LR N3 j := by
        intro j hj
        rcases (show j = u + 1 ∨ j ≤ u by omega) with z1 | z1
        · subst z1
          rw [← t3, ← t4]
          exact ⟨hL, show ((sayL 3 (sayN 3 row u)).length : Int) ≤ nn by omega⟩
        · obtain ⟨y1, y2⟩ := t6 j z1
          rw [y1, y2]
          have g8 := cR_ne u2 (show j < 61 by omega) hu (by omega)
          have g9 := cR_rng u2 (show j < 61 by omega)
          have g10 := cR_ne u2 hu (show j < 61 by omega) (by omega)
          exact ⟨(u7 j z1).1.ex xL (by omega) (fun q => by omega), (u7 j z1).2⟩
      refine ⟨c''.2.2.2.2.2.2.2.2.2.1.1, c_firstLike c'' t1 hu allg ?_⟩
      have h1'' := c''.2.2.2.2.2.2.2.2.2.1.1
      simp only [hK_p, hL_p, hI_p, hR_p, wI_p, cpI_p, hN_p, forall_eq, true_and, and_true, ne_eq, not_true_eq_false, not_false_eq_true, true_implies, false_implies, imp_false, implies_true, if_true, if_false, reduceCtorEq, h1'', upI_self]
      obtain ⟨v, hv⟩ : ∃ v, 60 - u = v + 1 := ⟨59 - u, by omega⟩
      rw [hv] at u6
      have u6 : ∀ q, agN row q 61 0 = if erl row (u + 1) (u + 1) 0 = -1 then agN row q v (u + 1 + 1) else (if q = 0 then ((u + 1 : Nat) : Int) else erl row (u + 1) (u + 1) 0) := u6
      have xF : Ex aTr I (upI L 230 3 (erl row (u + 1) (u + 1) 0)) := fun a q hq => by rw [upI_ne (by omega), xL' a q hq]
      refine ⟨fun z2 => ⟨by omega, ih _ _ ⟨u + 1, _, r'', e3, N3, by omega, by omega, rfl, t1, u3.trans t2, xF, Or.inr (by rw [upI_self]; exact z2), fun q => by rw [u6 q, if_pos z2]; congr 1; omega, fun j hj => ⟨(allg j hj).1.kept (upI_ne (by omega)) (funext fun q => upI_ne ?_), (allg j hj).2⟩⟩ (by omega)⟩, fun z2 => ?_⟩
      · have := cR_rng t1 (show j < 61 by omega)
        intro zz
        have hk := (rnd c'' t1 (show j < 61 by omega)).2.2.2.1
        rw [zz.1, h1''] at hk
        exact absurd hk (by decide)
      · have k := k _ r'' ⟨_, _, _, _, _, _, _, _, t1⟩ (u3.trans t2) (by rw [u6 1, if_neg z2, if_neg (by decide), upI_self]) xF
        rw [u6 0, if_neg z2, if_pos rfl] at k
        exact k
  · have : j = 0 := by omega
    subst this
    exact ⟨hJ, show ((row.length : Nat) : Int) ≤ _ by omega⟩
theorem q_again {S : St} {I : Im} {r : Rs} {q : Int} {Q : Int → Hp → Prop} (c : Cs r) (d : Dyn r) (hR : Rc S I) (w : WF S) (k : ∀ I' r', Rc S I' → Ex aC I I' → Op r r' → Q (oAgain S q) (I', r')) : C_X11_again 2 q (I, r) Q := by
  obtain ⟨p, o, cp, co, c3, Lp, Lo, L3, t⟩ := d
  have ca := c.1
  unfold sRa at ca
  obtain ⟨s1, s2, s3, _⟩ := c.2.2.2.2.1
  have ok := w.2.2.2.2.1
  have b1 := c.2.2.2.2.2.2.2.2.2.1.1
  unfold oAgain at k
  have j12 : (q = 0 ∨ q = 1) → J_X11_again_12 2 q (I, r) Q := by
    intro hq
    rw [if_pos (by omega)] at k
    unfold J_X11_again_12
    simp only [hK_p, hL_p, hI_p, hR_p, wI_p, cpI_p, hN_p, forall_eq, true_and, and_true, ne_eq, not_true_eq_false, not_false_eq_true, true_implies, false_implies, imp_false, implies_true, if_true, if_false, reduceCtorEq, ca, s1, s2, b1]
    refine c_comesAgain c t hR.2.2.2.2.1.1 ok.2.1 ok.1 (fun J r' d' x' e3 xJ => ?_)
    obtain ⟨g1, g2⟩ := hR.tried w xJ
    have k := k J r' g1 g2 ⟨x', fun _ => d'⟩
    have c' := c.of x'
    have cb := c'.1
    unfold sRa at cb
    simp only [hK_p, hL_p, hI_p, hR_p, wI_p, cpI_p, hN_p, forall_eq, true_and, and_true, ne_eq, not_true_eq_false, not_false_eq_true, true_implies, false_implies, imp_false, implies_true, if_true, if_false, reduceCtorEq, cb, c'.2.2.2.2.2.2.2.2.2.1.1, e3]
    refine ⟨fun z => ?_, fun z => by subst z; exact k⟩
    have : q = 1 := by omega
    subst this; exact k
  apply G_X11_again
  unfold V_X11_again
  refine ⟨fun z => j12 (Or.inl z), fun z => ⟨fun z1 => j12 (Or.inr z1), fun z1 => ?_⟩⟩
  rw [if_neg (by omega)] at k; exact k I r hR (Ex.refl I) (Op.refl r)
