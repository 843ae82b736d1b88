/-! COMPONENT, part 20: again -/
def cR (c3 j : Nat) : Nat := if j = 1 then c3 else 237 + 2 * j
def LR (L3 : Int) (j : Nat) : Int := if j = 1 then L3 else 60
theorem rnd {r : Rs} {p o cp co c3 : Nat} {Lp Lo L3 : Int} (c : Cs r) (t : Tr r p o cp co c3 Lp Lo L3) {j : Nat} (hj : j < 61) : rR r 235 j = 236 + 2 * j ∧ Fs r (236 + 2 * j) (cR c3 j) (LR L3 j) := by
  obtain ⟨a1, a2⟩ := c.2.2.2.2.2.2.2.2.2.1.2.2 j hj
  refine ⟨a1, ?_⟩
  unfold cR LR
  by_cases e : j = 1
  · subst e; rw [if_pos rfl, if_pos rfl]; exact t.2.2.2.2.1
  · rw [if_neg e, if_neg e]; exact a2 e
theorem cR_rng {r : Rs} {p o cp co c3 : Nat} {Lp Lo L3 : Int} (t : Tr r p o cp co c3 Lp Lo L3) {j : Nat} (hj : j < 61) : (230 ≤ cR c3 j ∧ cR c3 j ≤ 362 ∨ 389 ≤ cR c3 j) ∧ cR c3 j ≠ rN r ∧ (60 ≤ LR L3 j ∧ LR L3 j ≤ 240) := by
  obtain ⟨h1, ⟨h2, h3⟩, h4, h5, h6, ⟨h7, h8, h9⟩, ⟨h10, h11, h12⟩, h13, h14, h15, h16, h17, h18⟩ := t
  unfold tC at h9
  unfold cR LR
  split <;> omega
theorem cR_ne {r : Rs} {p o cp co c3 : Nat} {Lp Lo L3 : Int} (t : Tr r p o cp co c3 Lp Lo L3) {i j : Nat} (hi : i < 61) (hj : j < 61) (h : i ≠ j) : cR c3 i ≠ cR c3 j ∧ cR c3 i ≠ 236 + 2 * j := by
  obtain ⟨h1, ⟨h2, h3⟩, h4, h5, h6, ⟨h7, h8, h9⟩, ⟨h10, h11, h12⟩, h13, h14, h15, h16, h17, h18⟩ := t
  unfold tC at h9
  unfold cR
  split <;> split <;> omega
theorem Tr.grow3 {r r' : Rs} {p o cp co c3 c3' : Nat} {Lp Lo L3 L3' most : Int} (h : Tr r p o cp co c3 Lp Lo L3) (hm : most ≤ 120) (g : Gr r 238 c3 L3 most r' c3' L3') : Tr r' p o cp co c3' Lp Lo L3' ∧ Rx r r' ∧ most ≤ L3' := by
  rcases g with ⟨g1, g2, g3, g4⟩ | ⟨g1, g2, g3, g4, g5⟩
  · subst g1 g2 g3
    exact ⟨h, Rx.refl _, g4⟩
  obtain ⟨h1, ⟨h2, h3⟩, h4, h5, h6, ⟨h7, h8, h9⟩, ⟨h10, h11, h12⟩, h13, h14, h15, h16, h17, h18⟩ := h
  subst g5 g3
  unfold tC at h7 h8 h9
  have hN := grw_N r 238 L3'
  have hS := grw_S r 238 L3'
  have e1 : psi L3 = 0 := by unfold psi; rw [if_pos (by omega)]
  have e2 : psi L3' = 240 := by unfold psi; rw [if_neg (by omega)]
  refine ⟨⟨h1, ⟨?_, ?_⟩, grw_old h4 (by omega) (by omega) (by omega), grw_old h5 (by omega) (by omega) (by omega), grw_new h6.1 (by omega), ?_, ⟨h10, by omega, by omega⟩, h13, h14, by omega, by omega, ?_, ?_⟩, grw_Rx (by omega) h16, by omega⟩
  · rw [grw_R (by omega) (by omega)]; exact h2
  · rw [grw_R (by omega) (by omega)]; exact h3
  · unfold tC; rw [hN]; omega
  · rw [hN, e2]; rw [e1] at h17; omega
  · rw [hS, e2]; rw [e1] at h18; omega
theorem c_firstLike {I : Im} {r : Rs} {p o cp co c3 n : Nat} {Lp Lo L3 : Int} {row : List Int} {Q : Int → Hp → Prop} (c : Cs r) (t : Tr r p o cp co c3 Lp Lo L3) (hn : n < 61) (hg : ∀ j : Nat, j ≤ n → fg I (236 + 2 * j) (cR c3 j) (sayN 3 row j) ∧ ((sayN 3 row j).length : Int) ≤ LR L3 j) (k : Q (erl row n n 0) (I, r)) : C_X9_firstLike 230 n (I, r) Q := by
  have b1 := c.2.2.2.2.2.2.2.2.2.1.1
  obtain ⟨b2, b3, b4⟩ := c.2.2.2.2.2.2.2.2.2.1.2.1
  obtain ⟨a1, a2⟩ := rnd c t hn
  have an := cR_rng t hn
  apply G_X9_firstLike
  unfold V_X9_firstLike
  refine Lp_X9_firstLike_2_ind (fun x h => ∃ u : Nat, x = u ∧ u ≤ n ∧ h = (I, r) ∧ erl row n n 0 = erl row n (n - u) u) (fun x _ => n - x.toNat) ?_ _ _ ⟨0, rfl, Nat.zero_le _, rfl, rfl⟩
  intro P x h hI ih
  obtain ⟨u, rfl, u1, rfl, u2⟩ := hI
  unfold BLp_X9_firstLike_2
  refine ⟨fun z => ?_, fun z => ?_⟩
  · rw [u2, show n - u = 0 by omega] at k; exact k
  · obtain ⟨d1, d2⟩ := rnd c t (show u < 61 by omega)
    have ar := cR_rng t (show u < 61 by omega)
    obtain ⟨v, hv⟩ : ∃ v, n - u = v + 1 := ⟨n - u - 1, by omega⟩
    rw [hv] at u2
    have u2 : erl row n n 0 = if sayN 3 row u = sayN 3 row n then (u : Int) else erl row n v (u + 1) := u2
    simp only [hK_p, hL_p, hI_p, hR_p, wI_p, cpI_p, hN_p, forall_eq, true_and, and_true, ne_eq, not_true_eq_false, not_false_eq_true, true_implies, false_implies, imp_false, implies_true, if_true, if_false, reduceCtorEq, b1, b2, b3, b4, a1, d1, d2.1]
    refine ⟨by omega, by omega, c_same d2 a2 (hg u (by omega)).1 (hg n (Nat.le_refl _)).1 (hg u (by omega)).2 (hg n (Nat.le_refl _)).2 (by omega) (by omega) ?_⟩
    by_cases e : sayN 3 row u = sayN 3 row n
    · rw [if_pos e] at u2 ⊢
      rw [u2] at k
      exact ⟨fun z2 => absurd z2 (by decide), fun _ => k⟩
    · rw [if_neg e] at u2 ⊢
      exact ⟨fun _ => ⟨by omega, ih _ _ ⟨u + 1, by omega, by omega, rfl, by rw [u2]; congr 1; omega⟩ (by omega)⟩, fun z2 => absurd rfl z2⟩
