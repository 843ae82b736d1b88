/-! COMPONENT, part 19: back -/
theorem c_goOld {I : Im} {r : Rs} {p o cp co c3 : Nat} {Lp Lo L3 : Int} {xs : List Int} {Q : Int → Hp → Prop} (c : Cs r) (tr : Tr r p o cp co c3 Lp Lo L3) (h : fg I 40 41 xs) (hf : figs xs) (hl : xs.length ≤ 60) (k : ∀ I' r' p' o' cp' co' Lp' Lo', Tr r' p' o' cp' co' c3 Lp' Lo' L3 → Rx r r' → fg I' p' cp' (bkN 60 xs).2 → Ex aTr I I' → Q ((bkN 60 xs).1 : Nat) (I', r')) : C_X9_goOld 230 40 (I, r) Q := by
  have b1 := c.2.2.2.2.2.2.2.2.2.1.1
  apply G_X9_goOld
  unfold V_X9_goOld
  refine ⟨b1, c_begin c tr h hl (fun J hJ xJ => ?_)⟩
  refine Lp_X9_goOld_7_ind (fun x h => ∃ (u : Nat) (K : Im) (r' : Rs) (p' o' cp' co' : Nat) (Lp' Lo' : Int) (ys : List Int), x = u ∧ u ≤ 60 ∧ h = (K, r') ∧ Tr r' p' o' cp' co' c3 Lp' Lo' L3 ∧ Rx r r' ∧ fg K p' cp' ys ∧ ys.length ≤ 60 ∧ figs ys ∧ Ex aTr I K ∧ bkN 60 xs = ((bkN (60 - u) ys).1 + u, (bkN (60 - u) ys).2)) (fun x _ => 60 - x.toNat) ?_ _ _ ⟨0, J, r, p, o, cp, co, Lp, Lo, xs, rfl, by omega, rfl, tr, Rx.refl r, hJ, hl, hf, xJ, rfl⟩
  intro P x hh hI ih
  obtain ⟨u, K, r', p', o', cp', co', Lp', Lo', ys, rfl, u1, rfl, u2, u3, u4, u5, u6, u7, u8⟩ := hI
  have c' := c.of u3
  have t := u2
  obtain ⟨h1, ⟨h2, h3⟩, h4, h5, h6, ⟨h7, h8, h9⟩, ⟨h10, h11, h12⟩, h13, h14, h15, h16, h17, h18⟩ := t
  unfold tC at h7 h8
  have b1' := c'.2.2.2.2.2.2.2.2.2.1.1
  have stop : ∀ Z : Im, Ex aTr I Z → fg Z p' cp' ys → bkN (60 - u) ys = (0, ys) → ∀ v : Int, v = u → Q v (Z, r') := by
    intro Z xZ fZ hb v hv
    rw [hb] at u8
    have k := k Z r' p' o' cp' co' Lp' Lo' u2 u3 (by rw [u8]; exact fZ) xZ
    rw [u8] at k
    have e : ((0 + u : Nat) : Int) = v := by omega
    rw [← e]
    exact k
  unfold BLp_X9_goOld_7
  simp only [hK_p, hL_p, hI_p, hR_p, wI_p, cpI_p, hN_p, forall_eq, true_and, and_true, ne_eq, not_true_eq_false, not_false_eq_true, true_implies, false_implies, imp_false, implies_true, if_true, if_false, reduceCtorEq, b1', h2]
  refine ⟨fun z => stop K u7 u4 (by rw [show 60 - u = 0 by omega]; rfl) 60 (by omega), fun z => ?_⟩
  obtain ⟨v, hv⟩ : ∃ v, 60 - u = v + 1 := ⟨59 - u, by omega⟩
  refine c_sizeUnsaid h4 u4 u6 (by omega) (by omega) ?_
  cases hu : un 9 (-1) ys with
  | none =>
    have e : szU none = -1 := rfl
    rw [e]
    exact ⟨fun _ => stop K u7 u4 (by rw [hv, bkN_none hu]) u rfl, fun z2 => absurd (by decide) z2⟩
  | some zs =>
    have e : szU (some zs) = zs.length := rfl
    rw [e]
    have hb := bkN_some (k := v) hu
    rw [← hv] at hb
    refine ⟨fun z2 => ?_, fun z2 => ⟨fun z3 => ?_, fun z3 => ?_⟩⟩
    · have : zs = [] := List.length_eq_zero_iff.mp (by omega)
      rw [this] at hu
      have hys := un_nil u6 hu
      exact stop K u7 u4 (by rw [hys, bkN_nil]) u rfl
    · simp only [hK_p, hL_p, hI_p, hR_p, wI_p, cpI_p, hN_p, forall_eq, true_and, and_true, ne_eq, not_true_eq_false, not_false_eq_true, true_implies, false_implies, imp_false, implies_true, if_true, if_false, reduceCtorEq, b1', h2, h3]
      have hzf := un_fig _ _ _ _ u6 hu
      have hne : ys ≠ [] := fun zz => by
        rw [zz] at hu
        have : ([] : List Int) = zs := Option.some.inj hu
        rw [← this] at z2
        simp at z2
      refine c_unsay h4 h5 h10 u4 u6 hu (by omega) (by omega) (by omega) (by omega) (by omega) (fun L hL xL => ?_)
      have fL : fg L p' cp' ys := u4.ex xL (by omega) (fun q => by omega)
      have xL' : Ex aTr I L := u7.trans xL (fun _ _ z => z) (fun a q z => by omega)
      simp only [hK_p, hL_p, hI_p, hR_p, wI_p, cpI_p, hN_p, forall_eq, true_and, and_true, ne_eq, not_true_eq_false, not_false_eq_true, true_implies, false_implies, imp_false, implies_true, if_true, if_false, reduceCtorEq, b1', h2, h3, h5.1]
      refine c_same h5 h4 hL fL (by omega) (by omega) (by omega) (by omega) ?_
      by_cases e2 : zs = ys
      · rw [if_pos e2]
        rw [if_pos (Or.inr (Or.inr e2))] at hb
        exact ⟨fun z4 => absurd z4 (by decide), fun _ => stop L xL' fL hb u rfl⟩
      · rw [if_neg e2]
        rw [if_neg (by intro zz; rcases zz with zz | zz | zz; exact hne zz; omega; exact e2 zz)] at hb
        refine ⟨fun _ => ⟨b1', c_swap c' u2 (fun r'' t2 x2 => ⟨by omega, ih _ _ ⟨u + 1, L, r'', o', p', co', cp', Lo', Lp', zs, by omega, by omega, rfl, t2, u3.trans x2, hL, by omega, hzf, xL', ?_⟩ (by omega)⟩)⟩, fun z4 => absurd rfl z4⟩
        rw [u8, hb, show 60 - (u + 1) = v by omega]
        show ((bkN v zs).1 + 1 + u, (bkN v zs).2) = _
        congr 1
        omega
    · exact stop K u7 u4 (by rw [hb, if_pos (Or.inr (Or.inl (by omega)))]) u rfl
theorem q_back {S : St} {I : Im} {r : Rs} {q : Int} {Q : Int → Hp → Prop} (c : Cs r) (d : Dyn r) (hR : Rc S I) (w : WF S) (k : ∀ I' r', Rc S I' → Ex aC I I' → Op r r' → Q (oBack S q) (I', r')) : C_X11_back 2 q (I, r) Q := by
  obtain ⟨p, o, cp, co, c3, Lp, Lo, L3, t⟩ := d
  have ca := c.1
  unfold sRa at ca
  obtain ⟨s1, s2, s3, _⟩ := c.2.2.2.2.1
  have ok := w.2.2.2.2.1
  have b1 := c.2.2.2.2.2.2.2.2.2.1.1
  unfold oBack at k
  have j12 : (q = 0 ∨ q = 1) → J_X11_back_12 2 q (I, r) Q := by
    intro hq
    rw [if_pos (by omega)] at k
    unfold J_X11_back_12
    simp only [hK_p, hL_p, hI_p, hR_p, wI_p, cpI_p, hN_p, forall_eq, true_and, and_true, ne_eq, not_true_eq_false, not_false_eq_true, true_implies, false_implies, imp_false, implies_true, if_true, if_false, reduceCtorEq, ca, s1, s2, b1]
    refine c_goOld c t hR.2.2.2.2.1.1 ok.2.1 ok.1 (fun J r' p' o' cp' co' Lp' Lo' t' x' hJ xJ => ?_)
    obtain ⟨g1, g2⟩ := hR.tried w xJ
    have k := k J r' g1 g2 ⟨x', fun _ => ⟨p', o', cp', co', c3, Lp', Lo', L3, t'⟩⟩
    have c' := c.of x'
    have cb := c'.1
    unfold sRa at cb
    have e0 := t'.2.1.1
    simp only [hK_p, hL_p, hI_p, hR_p, wI_p, cpI_p, hN_p, forall_eq, true_and, and_true, ne_eq, not_true_eq_false, not_false_eq_true, true_implies, false_implies, imp_false, implies_true, if_true, if_false, reduceCtorEq, cb, c'.2.2.2.2.2.2.2.2.2.1.1, e0, t'.2.2.1.1, hJ.1]
    refine ⟨fun z => ?_, fun z => ?_⟩
    · rw [if_neg z] at k; exact k
    · rw [if_pos z] at k; exact k
  apply G_X11_back
  unfold V_X11_back
  refine ⟨fun z => j12 (Or.inl z), fun z => ⟨fun z1 => j12 (Or.inr z1), fun z1 => ?_⟩⟩
  rw [if_neg (by omega)] at k; exact k I r hR (Ex.refl I) (Op.refl r)
