/-! COMPONENT, part 17: trials read on -/
abbrev aTr : Nat → Int → Prop := fun a _ => (230 ≤ a ∧ a ≤ 362) ∨ 389 ≤ a
theorem c_begin {I : Im} {r : Rs} {p o cp co c3 : Nat} {Lp Lo L3 : Int} {xs : List Int} {Q : Hp → Prop} (c : Cs r) (t : Tr r p o cp co c3 Lp Lo L3) (h : fg I 40 41 xs) (hl : xs.length ≤ 60) (k : ∀ I', fg I' p cp xs → Ex aTr I I' → Q (I', r)) : C_X9_begin 230 40 (I, r) Q := by
  obtain ⟨h1, ⟨h2, h3⟩, h4, h5, h6, ⟨h7, h8, h9⟩, ⟨h10, h11, h12⟩, h13, h14, h15, h16, h17, h18⟩ := t
  unfold tC at h7
  have b1 := c.2.2.2.2.2.2.2.2.2.1.1
  apply G_X9_begin
  unfold V_X9_begin
  simp only [hK_p, hL_p, hI_p, hR_p, wI_p, cpI_p, hN_p, forall_eq, true_and, and_true, ne_eq, not_true_eq_false, not_false_eq_true, true_implies, false_implies, imp_false, implies_true, if_true, if_false, reduceCtorEq, b1, h2, h4.1]
  exact c_copyFrom h4 c.2.2.2.2.1.2.2.1 (by omega) h (by omega) (by omega) (fun J hJ xJ => k J hJ (xJ.mono (fun a q z => by omega)))
theorem c_swap {I : Im} {r : Rs} {p o cp co c3 : Nat} {Lp Lo L3 : Int} {Q : Hp → Prop} (c : Cs r) (t : Tr r p o cp co c3 Lp Lo L3) (k : ∀ r', Tr r' o p co cp c3 Lo Lp L3 → Rx r r' → Q (I, r')) : C_X9_swap 230 (I, r) Q := by
  obtain ⟨h1, ⟨h2, h3⟩, h4, h5, h6, ⟨h7, h8, h9⟩, ⟨h10, h11, h12⟩, h13, h14, h15, h16, h17, h18⟩ := t
  have b1 := c.2.2.2.2.2.2.2.2.2.1.1
  apply G_X9_swap
  unfold V_X9_swap
  simp only [hK_p, hL_p, hI_p, hR_p, wI_p, cpI_p, hN_p, forall_eq, true_and, and_true, ne_eq, not_true_eq_false, not_false_eq_true, true_implies, false_implies, imp_false, implies_true, if_true, if_false, reduceCtorEq, wR_p, upR_K, b1, h2, h3]
  have ro : ∀ (a : Nat) (q : Int), ¬ (a = 230 ∧ (q = 0 ∨ q = 1)) → rR (upR (upR r 230 0 o) 230 1 p) a q = rR r a q := fun a q hq => by rw [upR_at, if_neg (by omega), upR_at, if_neg (by omega)]
  refine k _ ⟨by omega, ⟨?_, upR_self _ _ _ _⟩, ⟨h5.1, by rw [ro _ _ (by omega)]; exact h5.2.1, h5.2.2⟩, ⟨h4.1, by rw [ro _ _ (by omega)]; exact h4.2.1, h4.2.2⟩, ⟨h6.1, by rw [ro _ _ (by omega)]; exact h6.2.1, h6.2.2⟩, ⟨h8, h7, h9⟩, ⟨Ne.symm h10, h12, h11⟩, h14, h13, h15, h16, ?_, ?_⟩ ⟨fun a q ha hq => ro a q (by omega), fun _ _ => rfl, fun _ _ => rfl⟩
  · rw [upR_at, if_neg (by omega), upR_self]
  · show (rN r : Int) ≤ _; omega
  · show (rS r : Int) ≤ _; omega
theorem c_step {I : Im} {r : Rs} {p o cp co c3 : Nat} {Lp Lo L3 kind : Int} {xs : List Int} {Q : Hp → Prop} (c : Cs r) (t : Tr r p o cp co c3 Lp Lo L3) (h : fg I p cp xs) (hf : figs xs) (hl : xs.length ≤ 7680) (hLp : (xs.length : Int) ≤ Lp) (k : ∀ I' r' co' Lo', Tr r' o p co' cp c3 Lo' Lp L3 → Rx r r' → fg I' o co' (sayL kind xs) → ((sayL kind xs).length : Int) ≤ Lo' → Ex aTr I I' → Q (I', r')) : C_X9_step 230 kind (I, r) Q := by
  have t' := t
  obtain ⟨h1, ⟨h2, h3⟩, h4, h5, h6, ⟨h7, h8, h9⟩, ⟨h10, h11, h12⟩, h13, h14, h15, h16, h17, h18⟩ := t
  unfold tC at h7 h8
  have b1 := c.2.2.2.2.2.2.2.2.2.1.1
  apply G_X9_step
  unfold V_X9_step
  simp only [hK_p, hL_p, hI_p, hR_p, wI_p, cpI_p, hN_p, forall_eq, true_and, and_true, ne_eq, not_true_eq_false, not_false_eq_true, true_implies, false_implies, imp_false, implies_true, if_true, if_false, reduceCtorEq, b1, h2, h3]
  refine c_sayG h4 h5 h10 h hf hLp (by omega) (by omega) (by omega) (by omega) (fun J r' co' Lo' g hJ xJ => ?_)
  obtain ⟨g1, g2, g3⟩ := t'.grow (by omega) g
  have c' := c.of g2
  have sl := sayL_len kind xs
  refine ⟨c'.2.2.2.2.2.2.2.2.2.1.1, c_swap c' g1 (fun r'' t2 x2 => k J r'' co' Lo' t2 (g2.trans x2) hJ (by omega) (xJ.mono (fun a q z => by omega)))⟩
theorem c_readOn {I : Im} {r : Rs} {p o cp co c3 : Nat} {Lp Lo L3 kind : Int} {t : Nat} {xs : List Int} {Q : Nat → Hp → Prop} (c : Cs r) (tr : Tr r p o cp co c3 Lp Lo L3) (h : fg I 40 41 xs) (hf : figs xs) (hl : xs.length ≤ 60) (ht : t ≤ 8) (k : ∀ I' r' p' o' cp' co' Lp' Lo', Tr r' p' o' cp' co' c3 Lp' Lo' L3 → Rx r r' → fg I' p' cp' (sayN kind xs t) → ((sayN kind xs t).length : Int) ≤ Lp' → Ex aTr I I' → Q p' (I', r')) : C_X9_readOn 230 kind t 40 (I, r) Q := by
  have b1 := c.2.2.2.2.2.2.2.2.2.1.1
  have hLp := tr.2.2.2.2.2.2.2.1
  apply G_X9_readOn
  unfold V_X9_readOn
  refine ⟨b1, c_begin c tr h hl (fun J hJ xJ => ?_)⟩
  refine Lp_X9_readOn_8_ind (fun x h => ∃ (u : Nat) (K : Im) (r' : Rs) (p' o' cp' co' : Nat) (Lp' Lo' : Int), x = u ∧ u ≤ t ∧ h = (K, r') ∧ Tr r' p' o' cp' co' c3 Lp' Lo' L3 ∧ Rx r r' ∧ fg K p' cp' (sayN kind xs u) ∧ ((sayN kind xs u).length : Int) ≤ Lp' ∧ Ex aTr I K) (fun x _ => t - x.toNat) ?_ _ _ ⟨0, J, r, p, o, cp, co, Lp, Lo, rfl, Nat.zero_le _, rfl, tr, Rx.refl r, hJ, (show ((xs.length : Nat) : Int) ≤ Lp by omega), xJ⟩
  intro P x hh hI ih
  obtain ⟨u, K, r', p', o', cp', co', Lp', Lo', rfl, u1, rfl, u2, u3, u4, u5, u6⟩ := hI
  have c' := c.of u3
  unfold BLp_X9_readOn_8
  refine ⟨fun z => ⟨c'.2.2.2.2.2.2.2.2.2.1.1, ?_⟩, fun z => ⟨c'.2.2.2.2.2.2.2.2.2.1.1, ?_⟩⟩
  · have : u = t := by omega
    subst this
    have e := u2.2.1.1
    show Q (rR r' 230 0) (K, r')
    rw [e]
    exact k K r' p' o' cp' co' Lp' Lo' u2 u3 u4 u5 u6
  · exact c_step c' u2 u4 (sayN_fig kind hf u) (sayN_7 kind hl (by omega)) u5 (fun L r'' co'' Lo'' t2 x2 hL lL xL => ⟨by omega, ih _ _ ⟨u + 1, L, r'', o', p', co'', cp', Lo'', Lp', by omega, by omega, rfl, t2, u3.trans x2, hL, lL, u6.trans xL (fun _ _ z => z) (fun _ _ z => z)⟩ (by omega)⟩)
theorem Rc.tried {S : St} {I I' : Im} (h : Rc S I) (w : WF S) (e : Ex aTr I I') : Rc S I' ∧ Ex aC I I' := ⟨h.kept w.2.2.2.1 (e.mono (fun a q z => by omega)), e.mono (fun a q z => by omega)⟩
theorem q_length {S : St} {I : Im} {r : Rs} {kind n : Int} {Q : Int → Hp → Prop} (c : Cs r) (d : Dyn r) (hR : Rc S I) (w : WF S) (k : ∀ I' r', Rc S I' → Ex aC I I' → Op r r' → Q (oLength S kind n) (I', r')) : C_X11_length 2 kind n (I, r) Q := by
  obtain ⟨p, o, cp, co, c3, Lp, Lo, L3, t⟩ := d
  have ca := c.1
  unfold sRa at ca
  obtain ⟨s1, s2, s3, _⟩ := c.2.2.2.2.1
  have ok := w.2.2.2.2.1
  unfold oLength at k
  apply G_X11_length
  unfold V_X11_length
  refine c_isTried (fun z => ⟨fun _ => ?_, fun z2 => absurd z2 (by decide)⟩) (fun z => ⟨fun z2 => absurd rfl z2, fun _ => ?_⟩)
  · rw [if_pos z] at k
    simp only [hK_p, hL_p, hI_p, hR_p, wI_p, cpI_p, hN_p, forall_eq, true_and, and_true, ne_eq, not_true_eq_false, not_false_eq_true, true_implies, false_implies, imp_false, implies_true, if_true, if_false, reduceCtorEq, ca, s1, s2, c.2.2.2.2.2.2.2.2.2.1.1]
    obtain ⟨m, hm⟩ : ∃ m : Nat, n = m := ⟨n.toNat, by omega⟩
    subst hm
    refine c_readOn c t hR.2.2.2.2.1.1 ok.2.1 ok.1 (by omega) (fun J r' p' o' cp' co' Lp' Lo' t' x' hJ lJ xJ => ?_)
    obtain ⟨g1, g2⟩ := hR.tried w xJ
    have k := k J r' g1 g2 ⟨x', fun _ => ⟨p', o', cp', co', c3, Lp', Lo', L3, t'⟩⟩
    rw [Int.toNat_natCast, ← hJ.1] at k
    exact ⟨t'.2.2.1.1, k⟩
  · rw [if_neg z] at k; exact k I r hR (Ex.refl I) (Op.refl r)
theorem q_figure {S : St} {I : Im} {r : Rs} {kind n q : Int} {Q : Int → Hp → Prop} (c : Cs r) (d : Dyn r) (hR : Rc S I) (w : WF S) (k : ∀ I' r', Rc S I' → Ex aC I I' → Op r r' → Q (oFigure S kind n q) (I', r')) : C_X11_figure 2 kind n q (I, r) Q := by
  obtain ⟨p, o, cp, co, c3, Lp, Lo, L3, t⟩ := d
  have ca := c.1
  unfold sRa at ca
  obtain ⟨s1, s2, s3, _⟩ := c.2.2.2.2.1
  have ok := w.2.2.2.2.1
  unfold oFigure at k
  apply G_X11_figure
  unfold V_X11_figure
  have no : ¬ (((0 ≤ kind ∧ kind ≤ 5) ∧ 0 ≤ n ∧ n ≤ 8) ∧ (0 ≤ q ∧ q ≤ 15359)) → Q (-1000000002) (I, r) := fun z => by rw [if_neg z] at k; exact k I r hR (Ex.refl I) (Op.refl r)
  refine c_isTried (fun z => ⟨fun z2 => absurd z2 (by decide), fun _ => ⟨fun z2 => no (by omega), fun z2 => ⟨fun z3 => ?_, fun z3 => no (by omega)⟩⟩⟩) (fun z => ⟨fun _ => no (fun zz => z zz.1), fun z2 => absurd rfl z2⟩)
  rw [if_pos ⟨z, by omega⟩] at k
  simp only [hK_p, hL_p, hI_p, hR_p, wI_p, cpI_p, hN_p, forall_eq, true_and, and_true, ne_eq, not_true_eq_false, not_false_eq_true, true_implies, false_implies, imp_false, implies_true, if_true, if_false, reduceCtorEq, ca, s1, s2, c.2.2.2.2.2.2.2.2.2.1.1]
  obtain ⟨m, hm⟩ : ∃ m : Nat, n = m := ⟨n.toNat, by omega⟩
  subst hm
  refine c_readOn c t hR.2.2.2.2.1.1 ok.2.1 ok.1 (by omega) (fun J r' p' o' cp' co' Lp' Lo' t' x' hJ lJ xJ => ?_)
  obtain ⟨g1, g2⟩ := hR.tried w xJ
  have k := k J r' g1 g2 ⟨x', fun _ => ⟨p', o', cp', co', c3, Lp', Lo', L3, t'⟩⟩
  rw [Int.toNat_natCast] at k
  refine ⟨t'.2.2.1.1, c_get t'.2.2.1 hJ lJ ?_⟩
  rw [if_pos (by omega)]; exact k
theorem q_often {S : St} {I : Im} {r : Rs} {kind n f : Int} {Q : Int → Hp → Prop} (c : Cs r) (d : Dyn r) (hR : Rc S I) (w : WF S) (k : ∀ I' r', Rc S I' → Ex aC I I' → Op r r' → Q (oOften S kind n f) (I', r')) : C_X11_often 2 kind n f (I, r) Q := by
  obtain ⟨p, o, cp, co, c3, Lp, Lo, L3, t⟩ := d
  have ca := c.1
  unfold sRa at ca
  obtain ⟨s1, s2, s3, _⟩ := c.2.2.2.2.1
  have ok := w.2.2.2.2.1
  unfold oOften at k
  apply G_X11_often
  unfold V_X11_often
  have no : ¬ (((0 ≤ kind ∧ kind ≤ 5) ∧ 0 ≤ n ∧ n ≤ 8) ∧ (0 ≤ f ∧ f ≤ 9)) → Q (-1000000002) (I, r) := fun z => by rw [if_neg z] at k; exact k I r hR (Ex.refl I) (Op.refl r)
  refine c_isTried (fun z => ⟨fun z2 => absurd z2 (by decide), fun _ => c_isFigure (fun z3 => ⟨fun _ => ?_, fun z4 => absurd z4 (by decide)⟩) (fun z3 => ⟨fun z4 => absurd rfl z4, fun _ => no (fun zz => z3 zz.2)⟩)⟩) (fun z => ⟨fun _ => no (fun zz => z zz.1), fun z2 => absurd rfl z2⟩)
  rw [if_pos ⟨z, z3⟩] at k
  simp only [hK_p, hL_p, hI_p, hR_p, wI_p, cpI_p, hN_p, forall_eq, true_and, and_true, ne_eq, not_true_eq_false, not_false_eq_true, true_implies, false_implies, imp_false, implies_true, if_true, if_false, reduceCtorEq, ca, s1, s2, c.2.2.2.2.2.2.2.2.2.1.1]
  obtain ⟨m, hm⟩ : ∃ m : Nat, n = m := ⟨n.toNat, by omega⟩
  subst hm
  refine c_readOn c t hR.2.2.2.2.1.1 ok.2.1 ok.1 (by omega) (fun J r' p' o' cp' co' Lp' Lo' t' x' hJ lJ xJ => ?_)
  obtain ⟨g1, g2⟩ := hR.tried w xJ
  have k := k J r' g1 g2 ⟨x', fun _ => ⟨p', o', cp', co', c3, Lp', Lo', L3, t'⟩⟩
  rw [Int.toNat_natCast] at k
  have b := t'.2.2.2.2.2.2.2.1.2
  exact ⟨t'.2.2.1.1, c_countOf t'.2.2.1 hJ lJ (by omega) k⟩
