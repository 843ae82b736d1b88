/-! COMPONENT, part 11: what is told -/
theorem q_told {S : St} {I : Im} {r : Rs} {q : Int} {Q : Int → Hp → Prop} (c : Cs r) (hR : Rc S I) (w : WF S) (k : ∀ I', Rc S I' → Ex aC I I' → Q (oTold S q) (I', r)) : C_X11_told 2 q (I, r) Q := by
  have ca := c.1
  unfold sRa at ca
  obtain ⟨s1, s2, s3, _⟩ := c.2.2.2.2.1
  have okn := w.2.2.2.2.1
  have hl := okn.1
  have hn := hR.2.2.2.2.1.1
  have k0 := k I hR (Ex.refl I)
  obtain ⟨nx, _, _, n2, _⟩ := hR.2.2.2.2.2.1
  have e10 := hR.2.2.1
  have edk := w.2.2.1
  have e23 := hR.2.2.2.1.1
  have e3 := hR.1.1
  have e394 := hR.2.2.2.2.1.2.2.1
  have e393 := hR.2.2.2.2.1.2.1
  have e210 := hR.2.2.2.2.2.2.2.2.1.1
  have e227 := hR.2.2.2.2.2.2.2.2.2.1
  have n60 : (((sNw S).1.length : Nat) : Int) ≤ 60 := by omega
  apply G_X11_told
  unfold V_X11_told
  simp only [hK_p, hL_p, hI_p, hR_p, wI_p, cpI_p, hN_p, forall_eq, true_and, and_true, ne_eq, not_true_eq_false, not_false_eq_true, true_implies, false_implies, imp_false, implies_true, if_true, if_false, reduceCtorEq, ca, s1, s2, s3.1, c.2.1.1, c.2.2.2.1.1, c.2.2.2.2.2.1.1, c.2.2.2.2.2.2.2.1.1, c.2.2.2.2.2.2.2.2.1.1, hn.1, n2, e10, e23, e3, e394, e393, e210, e227]
  unfold oTold at k0 k
  refine ⟨fun z => ?_, fun z => ?_, fun z => ?_, fun z => ?_, fun z => ?_, fun z => ?_, fun z => ?_, fun z => ?_, fun z => ?_, fun z => ?_, fun z => ?_, fun z => ?_, fun z => ?_, fun z => ?_, fun z => ?_⟩
  · rw [if_neg (by omega), if_neg (by omega), if_neg (by omega), if_neg (by omega), if_neg (by omega), if_neg (by omega), if_neg (by omega), if_neg (by omega), if_neg (by omega), if_neg (by omega), if_neg (by omega), if_neg (by omega), if_neg (by omega), if_neg (by omega)] at k0
    exact k0
  · subst z
    rw [if_pos rfl] at k0
    refine ⟨fun z => by rw [z] at k0; exact k0, fun z => ?_⟩
    rcases edk with z2 | z2
    · exact absurd z2 z
    · rw [z2] at k0; exact k0
  · subst z; exact k0
  · subst z; exact k0
  · subst z; exact k0
  · subst z; exact k0
  · subst z; exact k0
  · subst z; exact c_runs s3 hn n60 (by omega) k0
  · subst z; exact c_longest s3 hn n60 (by omega) okn.2.1 k0
  · subst z
    have k0 : Q (lgS (-1) (-1) 0 (-1) (sNw S).1).2 (I, r) := k0
    refine c_longStart s3 hn n60 (by omega) okn.2.1 (fun e => ⟨s3.1, c_get s3 hn n60 ?_⟩) (fun p hp e => ⟨s3.1, c_here s3 hn n60 hp ?_⟩)
    · rw [e] at k0; exact k0
    · rw [e] at k0; exact k0
  · subst z; exact c_unlike s3 hn n60 (by omega) k0
  · subst z
    exact c_ways c hR w (fun J hJ xJ => k J hJ (xJ.mono (fun a q z => by omega)))
  · subst z; exact k0
  · subst z; exact k0
  · subst z; exact k0
theorem q_in {S : St} {I : Im} {r : Rs} {x : Int} {Q : Int → Hp → Prop} (c : Cs r) (hR : Rc S I) (w : WF S) (k : Q (oIn S x) (I, r)) : C_X11_in 2 x (I, r) Q := by
  have ca := c.1
  unfold sRa at ca
  obtain ⟨s1, s2, s3, _⟩ := c.2.2.2.2.1
  have hl := w.2.2.2.2.1.1
  unfold oIn at k
  apply G_X11_in
  unfold V_X11_in
  simp only [hK_p, hL_p, hI_p, hR_p, wI_p, cpI_p, hN_p, forall_eq, true_and, and_true, ne_eq, not_true_eq_false, not_false_eq_true, true_implies, false_implies, imp_false, implies_true, if_true, if_false, reduceCtorEq, ca, c.2.2.2.1.1]
  refine c_wget c.2.2.2.1 hR.2.2.2.1 w.2.2.2.1 (fun z b d hb hd hs hg => ⟨fun _ => ?_, fun z2 => absurd (by omega) z2⟩) (fun z => ⟨fun z2 => absurd rfl z2, fun _ => ?_⟩)
  · rw [if_pos z] at k
    have okw := wl_ok w.2.2.2.1 z
    simp only [hK_p, hL_p, hI_p, hR_p, wI_p, cpI_p, hN_p, forall_eq, true_and, and_true, ne_eq, not_true_eq_false, not_false_eq_true, true_implies, false_implies, imp_false, implies_true, if_true, if_false, reduceCtorEq, ca, s1, s2, s3.1]
    exact c_placeOf s3 hs hR.2.2.2.2.1.1 hg (by omega) (by omega) (by omega) (by omega) okw.1 k
  · rw [if_neg z] at k; exact k
theorem c_takeIn {I : Im} {r : Rs} {a b d i : Nat} {row wo : List Int} {Q : Hp → Prop} (s : sWL r a) (s' : Fs r b d 8) (hg : fg I b d wo) (hw : wo.length ≤ 8) (hi : i < row.length) (hr : row.length ≤ 60) (hbd : b ≠ a + 3 ∧ d ≠ a + 3) (hc : ∀ j : Nat, j ≤ wo.length → I (a + 3) j = eE row wo i j) (k : ∀ I', (∀ j : Nat, j ≤ wo.length → I' (a + 3) j = eE row wo (i + 1) j) → Ex (fun x _ => x = a + 3) I I' → Q (I', r)) : C_X10_takeIn a row[i] b wo.length (I, r) Q := by
  obtain ⟨s1, _, _, ⟨s2, s3, s4⟩, _⟩ := s
  have c0 : I (a + 3) 0 = i := by
    have := hc 0 (Nat.zero_le _)
    rw [eE_0 row wo (by omega)] at this
    exact this
  apply G_X10_takeIn
  unfold V_X10_takeIn
  simp only [hK_p, hL_p, hI_p, hR_p, wI_p, cpI_p, hN_p, forall_eq, true_and, and_true, ne_eq, not_true_eq_false, not_false_eq_true, true_implies, false_implies, imp_false, implies_true, if_true, if_false, reduceCtorEq, s1, s2, s3, s4, c0]
  refine ⟨by omega, by omega, by omega, by omega, ?_⟩
  refine Lp_X10_takeIn_21_ind (fun x4 x5 h => ∃ (j : Nat) (J : Im), x5 = ((j + 1 : Nat) : Int) ∧ j ≤ wo.length ∧ h = (J, r) ∧ x4 = eE row wo i j ∧ Ex (fun x _ => x = a + 3) I J ∧ (∀ l : Nat, l ≤ j → J (a + 3) l = eE row wo (i + 1) l) ∧ (∀ l : Nat, j < l → l ≤ wo.length → J (a + 3) l = eE row wo i l)) (fun _ x5 _ => wo.length + 1 - x5.toNat) ?_ _ _ _ ⟨0, upI I (a + 3) 0 ((i : Int) + 1), rfl, Nat.zero_le _, rfl, by rw [eE_0 row wo (by omega)], fun x q hq => upI_ne (fun zz => hq zz.1), fun l hl => ?_, fun l h1 h2 => by rw [upI_ne (by omega)]; exact hc l h2⟩
  · intro P x4 x5 hh hI ih
    obtain ⟨j, J, rfl, j1, rfl, rfl, j2, j3, j4⟩ := hI
    unfold BLp_X10_takeIn_21
    refine ⟨fun z => ?_, fun z => ⟨by omega, s'.1, ?_⟩⟩
    · have : j = wo.length := by omega
      exact k J (fun l hl => j3 l (by omega)) j2
    · have hj : j < wo.length := by omega
      have hgJ : fg J b d wo := hg.ex j2 (by omega) (fun q => by omega)
      rw [show ((j + 1 : Nat) : Int) - 1 = (j : Int) by omega]
      have r1 := eE_rng row wo (k := i) (i := j) (by omega) (by omega)
      have r2 := eE_rng row wo (k := i) (i := j + 1) (by omega) (by omega)
      have r3 := eE_rng row wo (k := i + 1) (i := j) (by omega) (by omega)
      have es := eE_s row wo hi hj
      have v1 := j4 (j + 1) (by omega) (by omega)
      have v0 := j3 j (Nat.le_refl _)
      have jn : ∀ dd : Int, dd = (if row[i] = wo[j] then 0 else 1) → J_X10_takeIn_46 P a row[i] b wo.length ((j + 1 : Nat) : Int) dd (eE row wo i j) (J, r) Q := by
        intro dd hdd
        rw [← hdd] at es
        have hd2 : 0 ≤ dd ∧ dd ≤ 1 := by rw [hdd]; split <;> omega
        unfold J_X10_takeIn_46
        have v0' : J (a + 3) (((j + 1 : Nat) : Int) - 1) = eE row wo (i + 1) j := by rw [← v0]; congr 1; omega
        simp only [hK_p, hL_p, hI_p, hR_p, wI_p, cpI_p, hN_p, forall_eq, true_and, and_true, ne_eq, not_true_eq_false, not_false_eq_true, true_implies, false_implies, imp_false, implies_true, if_true, if_false, reduceCtorEq, s1, s2, s3, s4, v1, v0']
        refine ⟨by omega, by omega, by omega, by omega, by omega, by omega, by omega, by omega, ih _ _ _ ⟨j + 1, _, by omega, by omega, rfl, rfl, fun x q hq => by rw [upI_ne (by omega), j2 x q hq], fun l hl => ?_, fun l h1 h2 => by rw [upI_ne (by omega)]; exact j4 l (by omega) h2⟩ (by omega)⟩
        rcases (show l = j + 1 ∨ l ≤ j by omega) with z1 | z1
        · subst z1; rw [upI_self, es]; omega
        · rw [upI_ne (by omega)]; exact j3 l z1
      refine c_here s' hgJ (by omega) hj ⟨fun z2 => jn 1 (by rw [if_neg (fun z3 => z2 z3.symm)]), fun z2 => jn 0 (by rw [if_pos z2.symm])⟩
  · have : l = 0 := by omega
    subst this
    rw [eE_0 row wo (by omega)]
    have := upI_self I (a + 3) 0 ((i : Int) + 1)
    rw [show ((0 : Nat) : Int) = 0 from rfl, this]; omega
theorem q_changes {S : St} {I : Im} {r : Rs} {x : Int} {Q : Int → Hp → Prop} (c : Cs r) (hR : Rc S I) (w : WF S) (k : ∀ I', Rc S I' → Ex aC I I' → Q (oChanges S x) (I', r)) : C_X11_changes 2 x (I, r) Q := by
  have ca := c.1
  unfold sRa at ca
  obtain ⟨s1, s2, s3, _⟩ := c.2.2.2.2.1
  have sw := c.2.2.2.1
  have q' := sw
  obtain ⟨t1, _, _, ⟨t2, t3, t4⟩, _⟩ := q'
  have hl := w.2.2.2.2.1.1
  have okw := w.2.2.2.1
  unfold oChanges at k
  apply G_X11_changes
  unfold V_X11_changes
  simp only [hK_p, hL_p, hI_p, hR_p, wI_p, cpI_p, hN_p, forall_eq, true_and, and_true, ne_eq, not_true_eq_false, not_false_eq_true, true_implies, false_implies, imp_false, implies_true, if_true, if_false, reduceCtorEq, ca, c.2.2.2.1.1]
  refine c_wget c.2.2.2.1 hR.2.2.2.1 w.2.2.2.1 (fun z b d hb hd hs hg => ⟨fun _ => ?_, fun z2 => absurd (by omega) z2⟩) (fun z => ⟨fun z2 => absurd rfl z2, fun _ => ?_⟩)
  · rw [if_pos z] at k
    have ow := wl_ok okw z
    have hwl := okw.1
    rw [show (sWl S).getD x.toNat [] = wd S x from rfl] at ow hg
    generalize wd S x = wo at *
    simp only [hK_p, hL_p, hI_p, hR_p, wI_p, cpI_p, hN_p, forall_eq, true_and, and_true, ne_eq, not_true_eq_false, not_false_eq_true, true_implies, false_implies, imp_false, implies_true, if_true, if_false, reduceCtorEq, ca, s1, s2, c.2.2.2.1.1]
    apply G_X10_fewestChanges
    unfold V_X10_fewestChanges
    have m1 : min ((wo.length : Nat) : Int) 8 = wo.length := by omega
    simp only [hK_p, hL_p, hI_p, hR_p, wI_p, cpI_p, hN_p, forall_eq, true_and, and_true, ne_eq, not_true_eq_false, not_false_eq_true, true_implies, false_implies, imp_false, implies_true, if_true, if_false, reduceCtorEq, hs.1, hg.1, m1]
    have ks : ∀ J : Im, Ex (fun a _ => a = 26) I J → Rc S J ∧ Ex aC I J ∧ fg J b d wo := fun J hJ => ⟨hR.kept okw (hJ.mono (fun a q z => by omega)), hJ.mono (fun a q z => by omega), hg.ex hJ (by omega) (fun q => by omega)⟩
    have lp37 : ∀ J : Im, Ex (fun a _ => a = 26) I J → (∀ j : Nat, j ≤ wo.length → J 26 j = eE (sNw S).1 wo 0 j) → Lp_X10_fewestChanges_37 23 40 b wo.length 0 (J, r) Q := by
      intro J hJ hJ0
      refine Lp_X10_fewestChanges_37_ind (fun y h => ∃ (i : Nat) (K : Im), y = i ∧ h = (K, r) ∧ i ≤ (sNw S).1.length ∧ Ex (fun a _ => a = 26) I K ∧ ∀ j : Nat, j ≤ wo.length → K 26 j = eE (sNw S).1 wo i j) (fun y _ => (sNw S).1.length - y.toNat) ?_ _ _ ⟨0, J, rfl, rfl, Nat.zero_le _, hJ, hJ0⟩
      intro P y h hI ih
      obtain ⟨i, K, rfl, rfl, i1, i2, i3⟩ := hI
      obtain ⟨hRK, eK, gK⟩ := ks K i2
      have fK := hRK.2.2.2.2.1.1
      unfold BLp_X10_fewestChanges_37
      simp only [hK_p, hL_p, hI_p, hR_p, wI_p, cpI_p, hN_p, forall_eq, true_and, and_true, ne_eq, not_true_eq_false, not_false_eq_true, true_implies, false_implies, imp_false, implies_true, if_true, if_false, reduceCtorEq, s3.1, fK.1, t1, t2, t3, t4]
      refine ⟨fun z2 => ⟨by omega, ?_⟩, fun z2 => ?_⟩
      · have hi : i = (sNw S).1.length := by omega
        have v := i3 wo.length (Nat.le_refl _)
        have k := k K hRK eK
        have e : eE (sNw S).1 wo (sNw S).1.length wo.length = edD (sNw S).1.reverse wo.reverse := by unfold eE; rw [List.take_length, List.take_length]
        rw [v, hi, e]; exact k
      · have hi : i < (sNw S).1.length := by omega
        refine c_here s3 fK (by omega) hi ⟨t1, c_takeIn (row := (sNw S).1) sw hs gK ow.2.1 hi hl (by omega) i3 (fun L hL xL => ⟨by omega, ih _ _ ⟨i + 1, L, by omega, rfl, by omega, i2.trans xL (fun _ _ z => z) (fun _ _ z => z), hL⟩ (by omega)⟩)⟩
    refine Lp_X10_fewestChanges_13_ind (fun y h => ∃ (u : Nat) (K : Im), y = u ∧ h = (K, r) ∧ u ≤ wo.length + 1 ∧ Ex (fun a _ => a = 26) I K ∧ ∀ j : Nat, j < u → K 26 j = j) (fun y _ => wo.length + 1 - y.toNat) ?_ _ _ ⟨0, I, rfl, rfl, Nat.zero_le _, Ex.refl I, fun j hj => absurd hj (by omega)⟩
    intro P y h hI ih
    obtain ⟨u, K, rfl, rfl, u1, u2, u3⟩ := hI
    unfold BLp_X10_fewestChanges_13
    simp only [hK_p, hL_p, hI_p, hR_p, wI_p, cpI_p, hN_p, forall_eq, true_and, and_true, ne_eq, not_true_eq_false, not_false_eq_true, true_implies, false_implies, imp_false, implies_true, if_true, if_false, reduceCtorEq, t1, t2, t3, t4]
    refine ⟨fun z2 => lp37 K u2 (fun j hj => by rw [u3 j (by omega), eE_r _ wo hj]), fun z2 => ⟨by omega, by omega, ih _ _ ⟨u + 1, _, by omega, rfl, by omega, fun a q hq => by rw [upI_ne (by omega), u2 a q hq], fun j hj => ?_⟩ (by omega)⟩⟩
    rcases (show j = u ∨ j < u by omega) with h1 | h1
    · subst h1; exact upI_self _ _ _ _
    · rw [upI_ne (by omega)]; exact u3 j h1
  · rw [if_neg z] at k; exact k I hR (Ex.refl I)
