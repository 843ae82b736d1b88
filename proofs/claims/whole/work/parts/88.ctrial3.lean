/-! COMPONENT, part 18: first, back -/
theorem q_first {S : St} {I : Im} {r : Rs} {kind f : Int} {Q : Int → Hp → Prop} (c : Cs r) (d : Dyn r) (hR : Rc S I) (w : WF S) (k : ∀ I' r', Rc S I' → Ex aC I I' → Op r r' → Q (oFirst S kind f) (I', r')) : C_X11_first 2 kind f (I, r) Q := by
  obtain ⟨p, o, cp, co, c3, Lp, Lo, L3, t⟩ := d
  have ca := c.1
  unfold sRa at ca
  obtain ⟨s1, s2, s3, _⟩ := c.2.2.2.2.1
  have ok := w.2.2.2.2.1
  have b1 := c.2.2.2.2.2.2.2.2.2.1.1
  unfold oFirst at k
  apply G_X11_first
  unfold V_X11_first
  have no : ¬ ((0 ≤ kind ∧ kind ≤ 5) ∧ (0 ≤ f ∧ f ≤ 9)) → Q (-1000000002) (I, r) := fun z => by rw [if_neg z] at k; exact k I r hR (Ex.refl I) (Op.refl r)
  refine c_isKind (fun z => ⟨fun z2 => absurd z2 (by decide), fun _ => c_isFigure (fun z3 => ⟨fun _ => ?_, fun z4 => absurd z4 (by decide)⟩) (fun z3 => ⟨fun z4 => absurd rfl z4, fun _ => no (fun zz => z3 zz.2)⟩)⟩) (fun z => ⟨fun _ => no (fun zz => z zz.1), fun z2 => absurd rfl z2⟩)
  rw [if_pos ⟨z, z3⟩] at k
  simp only [hK_p, hL_p, hI_p, hR_p, wI_p, cpI_p, hN_p, forall_eq, true_and, and_true, ne_eq, not_true_eq_false, not_false_eq_true, true_implies, false_implies, imp_false, implies_true, if_true, if_false, reduceCtorEq, ca, s1, s2, b1]
  apply G_X9_firstWith
  unfold V_X9_firstWith
  have hLp := t.2.2.2.2.2.2.2.1
  have hl := ok.1
  refine ⟨b1, c_begin c t hR.2.2.2.2.1.1 ok.1 (fun J hJ xJ => ?_)⟩
  refine Lp_X9_firstWith_8_ind (fun x h => ∃ (u : Nat) (K : Im) (r' : Rs) (p' o' cp' co' : Nat) (Lp' Lo' : Int), x = u ∧ u ≤ 9 ∧ h = (K, r') ∧ Tr r' p' o' cp' co' c3 Lp' Lo' L3 ∧ Rx r r' ∧ fg K p' cp' (sayN kind (sNw S).1 (u - 1)) ∧ ((sayN kind (sNw S).1 (u - 1)).length : Int) ≤ Lp' ∧ Ex aTr I K ∧ fsN kind f (sNw S).1 9 0 = fsN kind f (sNw S).1 (9 - u) u) (fun x _ => 9 - x.toNat) ?_ _ _ ⟨0, J, r, p, o, cp, co, Lp, Lo, rfl, by omega, rfl, t, Rx.refl r, hJ, (show (((sNw S).1.length : Nat) : Int) ≤ Lp by omega), xJ, rfl⟩
  intro P x hh hI ih
  obtain ⟨u, K, r', p', o', cp', co', Lp', Lo', rfl, u1, rfl, u2, u3, u4, u5, u6, u7⟩ := hI
  have c' := c.of u3
  have fin : ∀ (L : Im) (r2 : Rs) (p2 o2 cp2 co2 : Nat) (Lp2 Lo2 : Int), Tr r2 p2 o2 cp2 co2 c3 Lp2 Lo2 L3 → Rx r r2 → Ex aTr I L → ∀ v, v = fsN kind f (sNw S).1 9 0 → Q v (L, r2) := by
    intro L r2 p2 o2 cp2 co2 Lp2 Lo2 t2 x2 e2 v hv
    obtain ⟨g1, g2⟩ := hR.tried w e2
    rw [hv]
    exact k L r2 g1 g2 ⟨x2, fun _ => ⟨p2, o2, cp2, co2, c3, Lp2, Lo2, L3, t2⟩⟩
  have j25 : u < 9 → ∀ (L : Im) (r2 : Rs) (p2 o2 cp2 co2 : Nat) (Lp2 Lo2 : Int), Tr r2 p2 o2 cp2 co2 c3 Lp2 Lo2 L3 → Rx r r2 → Ex aTr I L → fg L p2 cp2 (sayN kind (sNw S).1 u) → ((sayN kind (sNw S).1 u).length : Int) ≤ Lp2 → J_X9_firstWith_25 P 230 kind f u (L, r2) (fun r6 h5 => Q r6 h5) := by
    intro hu L r2 p2 o2 cp2 co2 Lp2 Lo2 t2 x2 e2 fL lL
    have c2 := c.of x2
    have e230 := t2.2.1.1
    have bL := t2.2.2.2.2.2.2.2.1.2
    obtain ⟨v, hv⟩ : ∃ v, 9 - u = v + 1 := ⟨8 - u, by omega⟩
    rw [hv] at u7
    have u7 : fsN kind f (sNw S).1 9 0 = if 0 < cnt f (sayN kind (sNw S).1 u) then (u : Int) else fsN kind f (sNw S).1 v (u + 1) := u7
    unfold J_X9_firstWith_25
    simp only [hK_p, hL_p, hI_p, hR_p, wI_p, cpI_p, hN_p, forall_eq, true_and, and_true, ne_eq, not_true_eq_false, not_false_eq_true, true_implies, false_implies, imp_false, implies_true, if_true, if_false, reduceCtorEq, c2.2.2.2.2.2.2.2.2.2.1.1, e230, t2.2.2.1.1]
    refine c_has t2.2.2.1 fL lL (by omega) ?_
    by_cases e : 0 < cnt f (sayN kind (sNw S).1 u)
    · rw [if_pos e] at u7 ⊢
      exact ⟨fun z4 => absurd z4 (by decide), fun _ => fin L r2 p2 o2 cp2 co2 Lp2 Lo2 t2 x2 e2 _ u7.symm⟩
    · rw [if_neg e] at u7 ⊢
      exact ⟨fun _ => ⟨by omega, ih _ _ ⟨u + 1, L, r2, p2, o2, cp2, co2, Lp2, Lo2, by omega, by omega, rfl, t2, x2, fL, lL, e2, by rw [u7]; congr 1; omega⟩ (by omega)⟩, fun z4 => absurd rfl z4⟩
  unfold BLp_X9_firstWith_8
  refine ⟨fun z4 => ?_, fun z4 => ⟨fun z5 => ?_, fun z5 => ⟨c'.2.2.2.2.2.2.2.2.2.1.1, ?_⟩⟩⟩
  · have : u = 9 := by omega
    subst this
    exact fin K r' p' o' cp' co' Lp' Lo' u2 u3 u6 _ u7.symm
  · have : u = 0 := by omega
    subst this
    exact j25 (by omega) K r' p' o' cp' co' Lp' Lo' u2 u3 u6 u4 u5
  · refine c_step c' u2 u4 (sayN_fig kind ok.2.1 _) (sayN_7 kind hl (by omega)) u5 (fun L r'' co'' Lo'' t2 x2 hL lL xL => ?_)
    have e : sayL kind (sayN kind (sNw S).1 (u - 1)) = sayN kind (sNw S).1 u := by
      obtain ⟨v, hv⟩ : ∃ v, u = v + 1 := ⟨u - 1, by omega⟩
      subst hv
      rfl
    rw [e] at hL lL
    exact j25 (by omega) L r'' o' p' co'' cp' Lo'' Lp' t2 (u3.trans x2) (u6.trans xL (fun _ _ z => z) (fun _ _ z => z)) hL lL
theorem un_nil {ys : List Int} {pm pf : Int} (hf : figs ys) (h : un pm pf ys = some []) : ys = [] := by
  match ys, h with
  | [], _ => rfl
  | [_], h => cases h
  | m :: f :: xs, h =>
    exfalso
    rw [un_2] at h
    split at h
    · cases h
    · rename_i hc
      have hm := hf m (List.mem_cons_self ..)
      cases hu : un m f xs with
      | none => rw [hu] at h; cases h
      | some z =>
        rw [hu] at h
        have e : List.replicate m.toNat f ++ z = [] := Option.some.inj h
        have := congrArg List.length e
        simp at this
        omega
