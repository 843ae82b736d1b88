/-! COMPONENT, part 12: what is heard -/
def bcP (n : Nat) : Bool :=
  let x1 : Int := (n : Int) - zAnd (zUshr n 1) 1431655765
  let x2 : Int := zAnd x1 858993459 + zAnd (zUshr x1 2) 858993459
  let x3 : Int := zAnd (x2 + zUshr x2 4) 252645135
  let x4 : Int := x3 + zUshr x3 8
  let x5 : Int := x4 + zUshr x4 16
  decide (((-2147483648 : Int) ≤ x1 ∧ x1 ≤ 2147483647) ∧ ((-2147483648 : Int) ≤ x2 ∧ x2 ≤ 2147483647) ∧ ((-2147483648 : Int) ≤ x2 + zUshr x2 4 ∧ x2 + zUshr x2 4 ≤ 2147483647) ∧ ((-2147483648 : Int) ≤ x4 ∧ x4 ≤ 2147483647) ∧ ((-2147483648 : Int) ≤ x5 ∧ x5 ≤ 2147483647) ∧ zAnd x5 63 = (bits n 6 : Nat))
theorem bc_all : ∀ n : Nat, n < 64 → bcP n = true := by decide +kernel
theorem c_bitCount {n : Nat} {h : Hp} {Q : Int → Hp → Prop} (hn : n < 64) (k : Q (bits n 6 : Nat) h) : C_J_bitCount n h Q := by
  have e := bc_all n hn
  unfold bcP at e
  simp only [decide_eq_true_eq] at e
  obtain ⟨e1, e2, e3, e4, e5, e6⟩ := e
  apply G_J_bitCount
  unfold V_J_bitCount
  simp only [forall_eq]
  refine ⟨e1, e2, e3, e4, e5, ?_⟩
  rw [e6]; exact k
abbrev aRe : Nat → Int → Prop := fun a _ => 215 ≤ a ∧ a ≤ 226
theorem c_fits {S : St} {I : Im} {r : Rs} {kd : Nat} {Q : Int → Hp → Prop} (c : Cs r) (hR : Rc S I) (w : WF S) (hk : kd < 6) (k : ∀ I', Ex aRe I I' → Q (if fitK (sWl S) kd (sHd S) = true then 1 else 0) (I', r)) : C_X3_fits 210 kd 23 (I, r) Q := by
  obtain ⟨b1, ⟨b2, b3, b4⟩, ⟨b5, b6, b7⟩, ⟨b8, b9, b10⟩, ⟨b11, b12, b13⟩, b14⟩ := c.2.2.2.2.2.2.2.1
  obtain ⟨g1, g2⟩ := b14 kd hk
  have okw := w.2.2.2.1
  have hwl := okw.1
  obtain ⟨hl, hq⟩ := w.2.2.2.2.2.2.2.2.1
  have t1 := c.2.2.2.1.1
  apply G_X3_fits
  unfold V_X3_fits
  refine Lp_X3_fits_2_ind (fun x3 h => ∃ (t : Nat) (J : Im), x3 = t ∧ t ≤ (sHd S).length ∧ h = (J, r) ∧ Ex aRe I J ∧ fitK (sWl S) kd ((sHd S).take t) = true) (fun x3 _ => (sHd S).length - x3.toNat) ?_ _ _ ⟨0, I, rfl, Nat.zero_le _, rfl, Ex.refl I, rfl⟩
  intro P x3 hh hI ih
  obtain ⟨t, J, rfl, u1, rfl, u2, u3⟩ := hI
  have hRJ : Rc S J := hR.kept okw (u2.mono (fun a q z => by omega))
  obtain ⟨h1, h2, h3, h4⟩ := hRJ.2.2.2.2.2.2.2.2.1
  unfold BLp_X3_fits_2
  simp only [hK_p, hL_p, hI_p, hR_p, wI_p, cpI_p, hN_p, forall_eq, true_and, and_true, ne_eq, not_true_eq_false, not_false_eq_true, true_implies, false_implies, imp_false, implies_true, if_true, if_false, reduceCtorEq, b1, b2, b3, b4, h1, t1]
  refine ⟨fun z => ?_, fun z => ⟨by omega, ?_⟩⟩
  · have : t = (sHd S).length := by omega
    rw [this, List.take_length] at u3
    have k := k J u2
    rw [if_pos u3] at k; exact k
  · have ht : t < (sHd S).length := by omega
    have a1 : J 211 t = (sHd S)[t].1 := by have := h2.get (k := t) (by simpa using ht); rw [Int.zero_add] at this; rw [this]; simp
    have a2 : J 212 t = (sHd S)[t].2.1 := by have := h3.get (k := t) (by simpa using ht); rw [Int.zero_add] at this; rw [this]; simp
    have fs := fitK_s (wl := sWl S) (kind := kd) ht
    rw [u3, Bool.true_and] at fs
    obtain ⟨q1, q2, q3⟩ := hq _ (List.getElem_mem ht)
    rw [a1]
    refine c_wget c.2.2.2.1 hRJ.2.2.2.1 okw (fun z1 b d hb hd hs hg => ?_) (fun z1 => absurd (by omega) z1)
    simp only [hK_p, hL_p, hI_p, hR_p, wI_p, cpI_p, hN_p, forall_eq, true_and, and_true, ne_eq, not_true_eq_false, not_false_eq_true, true_implies, false_implies, imp_false, implies_true, if_true, if_false, reduceCtorEq, b1, b5, b6, b7, a2, t1]
    refine ⟨by omega, c_wget c.2.2.2.1 hRJ.2.2.2.1 okw (fun z2 b' d' hb' hd' hs' hg' => ?_) (fun z2 => absurd (by omega) z2)⟩
    refine ⟨fun z3 => absurd z3 (by omega), fun _ => ⟨fun z3 => absurd z3 (by omega), fun _ => ?_⟩⟩
    simp only [hK_p, hL_p, hI_p, hR_p, wI_p, cpI_p, hN_p, forall_eq, true_and, and_true, ne_eq, not_true_eq_false, not_false_eq_true, true_implies, false_implies, imp_false, implies_true, if_true, if_false, reduceCtorEq, b1, b11, b12, b13, g1]
    have ok1 := wl_ok okw z1
    have ok2 := wl_ok okw z2
    refine ⟨by omega, c_say hs g2 (by omega) hg ok1.2.2 (by omega) (by omega) (by omega) (by omega) (fun K hK xK => ?_)⟩
    have exK : Ex aRe I K := u2.trans xK (fun _ _ z => z) (fun a q z => by omega)
    have hRK : Rc S K := hR.kept okw (exK.mono (fun a q z => by omega))
    have sl := sayL_len kd ((sWl S).getD (sHd S)[t].1.toNat [])
    have a3 : K 213 t = (sHd S)[t].2.2 := by have := hRK.2.2.2.2.2.2.2.2.1.2.2.2.get (k := t) (by simpa using ht); rw [Int.zero_add] at this; rw [this]; simp
    simp only [hK_p, hL_p, hI_p, hR_p, wI_p, cpI_p, hN_p, forall_eq, true_and, and_true, ne_eq, not_true_eq_false, not_false_eq_true, true_implies, false_implies, imp_false, implies_true, if_true, if_false, reduceCtorEq, b1, b11, b12, b13, g1, g2.1]
    refine ⟨by omega, c_same g2 hs' hK (hg'.ex xK (by omega) (fun q => by omega)) (by omega) (by omega) (by omega) (by omega) ?_⟩
    simp only [hK_p, hL_p, hI_p, hR_p, wI_p, cpI_p, hN_p, forall_eq, true_and, and_true, ne_eq, not_true_eq_false, not_false_eq_true, true_implies, false_implies, imp_false, implies_true, if_true, if_false, reduceCtorEq, b1, b8, b9, b10, a3]
    refine ⟨by omega, fun z4 => ⟨by omega, ih _ _ ⟨t + 1, K, by omega, by omega, rfl, exK, ?_⟩ (by omega)⟩, fun z4 => ?_⟩
    · rw [fs]
      by_cases e : sayL kd ((sWl S).getD (sHd S)[t].1.toNat []) = (sWl S).getD (sHd S)[t].2.1.toNat []
      · rw [if_pos e] at z4
        rw [decide_eq_true e, ← z4]; rfl
      · rw [if_neg e] at z4
        rw [decide_eq_false e, ← z4]; rfl
    · have k := k K exK
      have : fitK (sWl S) kd (sHd S) = false := by
        refine fitK_no (t + 1) ?_
        rw [fs]
        by_cases e : sayL kd ((sWl S).getD (sHd S)[t].1.toNat []) = (sWl S).getD (sHd S)[t].2.1.toNat []
        · rw [if_pos e] at z4
          have : (sHd S)[t].2.2 = 0 := by omega
          rw [decide_eq_true e, this]; rfl
        · rw [if_neg e] at z4
          have : (sHd S)[t].2.2 = 1 := by omega
          rw [decide_eq_false e, this]; rfl
      rw [if_neg (by rw [this]; decide)] at k
      exact k
theorem c_kinds {S : St} {I : Im} {r : Rs} {Q : Int → Hp → Prop} (c : Cs r) (hR : Rc S I) (w : WF S) (k : ∀ I', Ex aRe I I' → Q (couldB S : Nat) (I', r)) : C_X3_kindsThatFit 210 23 (I, r) Q := by
  have b1 := c.2.2.2.2.2.2.2.1.1
  have okw := w.2.2.2.1
  unfold couldB at k
  apply G_X3_kindsThatFit
  unfold V_X3_kindsThatFit
  refine Lp_X3_kindsThatFit_4_ind (fun x1 x2 h => ∃ (u : Nat) (J : Im), x2 = u ∧ u ≤ 6 ∧ h = (J, r) ∧ x1 = (setOf (fun kind => fitK (sWl S) kind (sHd S)) u : Nat) ∧ Ex aRe I J) (fun x1 x2 _ => 6 - x2.toNat) ?_ _ _ _ ⟨0, I, rfl, by omega, rfl, rfl, Ex.refl I⟩
  intro P x1 x2 h hI ih
  obtain ⟨u, J, rfl, u1, rfl, rfl, u2⟩ := hI
  unfold BLp_X3_kindsThatFit_4
  refine ⟨fun z => ?_, fun z => ⟨b1, ?_⟩⟩
  · have hu : u = 6 := by omega
    subst hu
    exact k J u2
  have lt := setOf_lt (fun kind => fitK (sWl S) kind (sHd S)) u
  have l2 : 2 ^ u ≤ 2 ^ 6 := Nat.pow_le_pow_right (by omega) u1
  have step : setOf (fun kind => fitK (sWl S) kind (sHd S)) (u + 1) = if fitK (sWl S) u (sHd S) = true then setOf (fun kind => fitK (sWl S) kind (sHd S)) u ||| 2 ^ u else setOf (fun kind => fitK (sWl S) kind (sHd S)) u := rfl
  refine c_fits c (hR.kept okw (u2.mono (fun a q z => by omega))) w (by omega) (fun K xK => ?_)
  have exK : Ex aRe I K := u2.trans xK (fun _ _ z => z) (fun _ _ z => z)
  generalize setOf (fun kind => fitK (sWl S) kind (sHd S)) u = st at *
  simp only [forall_eq]
  have e1 := zOr_n (a := st) (b := 2 ^ u) (by omega) (by omega)
  rw [zShl_1 (by omega), e1]
  by_cases e : fitK (sWl S) u (sHd S) = true
  · rw [if_pos e] at step ⊢
    exact ⟨fun z2 => absurd z2 (by decide), fun _ => ⟨by omega, ih _ _ _ ⟨u + 1, K, by omega, by omega, rfl, by rw [step], exK⟩ (by omega)⟩⟩
  · rw [if_neg e] at step ⊢
    exact ⟨fun _ => ⟨by omega, ih _ _ _ ⟨u + 1, K, by omega, by omega, rfl, by rw [step], exK⟩ (by omega)⟩, fun z2 => absurd rfl z2⟩
theorem q_couldBe {S : St} {I : Im} {r : Rs} {Q : Int → Hp → Prop} (c : Cs r) (hR : Rc S I) (w : WF S) (k : ∀ I', Rc S I' → Ex aC I I' → Q (couldB S : Nat) (I', r)) : C_X11_couldBe 2 (I, r) Q := by
  have ca := c.1
  unfold sRa at ca
  apply G_X11_couldBe
  unfold V_X11_couldBe
  simp only [hK_p, hL_p, hI_p, hR_p, wI_p, cpI_p, hN_p, forall_eq, true_and, and_true, ne_eq, not_true_eq_false, not_false_eq_true, true_implies, false_implies, imp_false, implies_true, if_true, if_false, reduceCtorEq, ca, c.2.2.2.2.2.2.2.1.1]
  exact c_kinds c hR w (fun J xJ => k J (hR.kept w.2.2.2.1 (xJ.mono (fun a q z => by omega))) (xJ.mono (fun a q z => by omega)))
def rds (I : Im) (wo : List Int) (n : Nat) : Prop := ∀ i : Nat, i < n → fg I (215 + 2 * i) (216 + 2 * i) (sayL i wo)
theorem c_like {I : Im} {r : Rs} {st kd : Nat} {wo : List Int} {Q : Int → Hp → Prop} (c : Cs r) (hst : st < 64) (hk : kd < 6) (hw : wo.length ≤ 8) (ht : rds I wo 6) (k : Q (likeN st wo kd 6 : Nat) (I, r)) : C_X3_howManyLike 210 kd st (I, r) Q := by
  obtain ⟨b1, _, _, _, ⟨b11, b12, b13⟩, b14⟩ := c.2.2.2.2.2.2.2.1
  obtain ⟨g1, g2⟩ := b14 kd hk
  apply G_X3_howManyLike
  unfold V_X3_howManyLike
  refine Lp_X3_howManyLike_5_ind (fun x3 x4 h => ∃ u : Nat, x4 = u ∧ u ≤ 6 ∧ h = (I, r) ∧ x3 = (likeN st wo kd u : Nat)) (fun _ x4 _ => 6 - x4.toNat) ?_ _ _ _ ⟨0, rfl, by omega, rfl, rfl⟩
  intro P x3 x4 h hI ih
  obtain ⟨u, rfl, u1, rfl, rfl⟩ := hI
  have lk := likeN_le st wo kd u
  have step : likeN st wo kd (u + 1) = likeN st wo kd u + (if st.testBit u = true ∧ sayL u wo = sayL kd wo then 1 else 0) := rfl
  unfold BLp_X3_howManyLike_5
  refine ⟨fun z => ?_, fun z => ?_⟩
  · have hu : u = 6 := by omega
    subst hu; exact k
  have hu : u < 6 := by omega
  obtain ⟨j1, j2⟩ := b14 u hu
  have l1 := sayL_len u wo
  have l2 := sayL_len kd wo
  rw [z_bit (by omega) (by omega)]
  by_cases hb : st.testBit u = true
  · rw [if_pos hb]
    refine ⟨fun z2 => absurd rfl z2, fun _ => ?_⟩
    simp only [hK_p, hL_p, hI_p, hR_p, wI_p, cpI_p, hN_p, forall_eq, true_and, and_true, ne_eq, not_true_eq_false, not_false_eq_true, true_implies, false_implies, imp_false, implies_true, if_true, if_false, reduceCtorEq, b1, b11, b12, b13, g1, j1, g2.1]
    refine ⟨by omega, by omega, c_same g2 j2 (ht kd hk) (ht u hu) (by omega) (by omega) (by omega) (by omega) ?_⟩
    by_cases e : sayL kd wo = sayL u wo
    · rw [if_pos e]
      rw [if_pos ⟨hb, e.symm⟩] at step
      exact ⟨fun z2 => absurd z2 (by decide), fun _ => ⟨by omega, by omega, ih _ _ _ ⟨u + 1, by omega, by omega, rfl, by omega⟩ (by omega)⟩⟩
    · rw [if_neg e]
      rw [if_neg (fun zz => e zz.2.symm)] at step
      exact ⟨fun _ => ⟨by omega, ih _ _ _ ⟨u + 1, by omega, by omega, rfl, by omega⟩ (by omega)⟩, fun z2 => absurd rfl z2⟩
  · rw [if_neg hb]
    rw [if_neg (fun zz => hb zz.1)] at step
    exact ⟨fun _ => ⟨by omega, ih _ _ _ ⟨u + 1, by omega, by omega, rfl, by omega⟩ (by omega)⟩, fun z2 => absurd z2 (by decide)⟩
theorem c_greatest {I : Im} {r : Rs} {st b d : Nat} {wo : List Int} {Q : Int → Hp → Prop} (c : Cs r) (hst : st < 64) (s' : Fs r b d 8) (hb : b < 210) (hd : d < 210) (hg : fg I b d wo) (hw : wo.length ≤ 8) (hf : figs wo) (k : ∀ I', Ex aRe I I' → Q (mostN st wo 6 : Nat) (I', r)) : C_X3_greatestPart 210 b st (I, r) Q := by
  obtain ⟨b1, _, _, _, ⟨b11, b12, b13⟩, b14⟩ := c.2.2.2.2.2.2.2.1
  have lp30 : ∀ J : Im, Ex aRe I J → rds J wo 6 → Lp_X3_greatestPart_30 210 st 0 0 (J, r) Q := by
    intro J xJ hT
    refine Lp_X3_greatestPart_30_ind (fun x5 x6 h => ∃ u : Nat, x6 = u ∧ h = (J, r) ∧ u ≤ 6 ∧ x5 = (mostN st wo u : Nat)) (fun _ x6 _ => 6 - x6.toNat) ?_ _ _ _ ⟨0, rfl, rfl, by omega, rfl⟩
    intro P x5 x6 h hI ih2
    obtain ⟨u, rfl, rfl, u1, rfl⟩ := hI
    have ml := mostN_le st wo u
    unfold BLp_X3_greatestPart_30
    refine ⟨fun c2 => ?_, fun c2 => ?_⟩
    · have hu : u = 6 := by omega
      subst hu
      exact k J xJ
    · have hu : u < 6 := by omega
      have step : mostN st wo (u + 1) = if st.testBit u = true then max (mostN st wo u) (likeN st wo u 6) else mostN st wo u := rfl
      rw [z_bit (by omega) (by omega)]
      by_cases hbt : st.testBit u = true
      · rw [if_pos hbt] at step ⊢
        refine ⟨fun z => absurd rfl z, fun _ => ⟨b1, c_like c hst hu hw hT ?_⟩⟩
        simp only [forall_eq]
        exact ⟨by omega, ih2 _ _ _ ⟨u + 1, by omega, rfl, by omega, by rw [step]; omega⟩ (by omega)⟩
      · rw [if_neg hbt] at step ⊢
        exact ⟨fun _ => ⟨by omega, ih2 _ _ _ ⟨u + 1, by omega, rfl, by omega, by rw [step]⟩ (by omega)⟩, fun z => absurd z (by decide)⟩
  apply G_X3_greatestPart
  unfold V_X3_greatestPart
  refine Lp_X3_greatestPart_2_ind (fun x h => ∃ (u : Nat) (J : Im), x = u ∧ u ≤ 6 ∧ h = (J, r) ∧ Ex aRe I J ∧ rds J wo u) (fun x _ => 6 - x.toNat) ?_ _ _ ⟨0, I, rfl, by omega, rfl, Ex.refl I, fun j hj => absurd hj (by omega)⟩
  intro P x h hI ih
  obtain ⟨u, J, rfl, u1, rfl, u2, u3⟩ := hI
  unfold BLp_X3_greatestPart_2
  refine ⟨fun z => ?_, fun z => ?_⟩
  · have hu : u = 6 := by omega
    subst hu
    exact lp30 J u2 u3
  · have hu : u < 6 := by omega
    obtain ⟨g1, g2⟩ := b14 u hu
    simp only [hK_p, hL_p, hI_p, hR_p, wI_p, cpI_p, hN_p, forall_eq, true_and, and_true, ne_eq, not_true_eq_false, not_false_eq_true, true_implies, false_implies, imp_false, implies_true, if_true, if_false, reduceCtorEq, b1, b11, b12, b13, g1]
    refine ⟨by omega, c_say s' g2 (by omega) (hg.ex u2 (by omega) (fun q => by omega)) hf (by omega) (by omega) (by omega) (by omega) (fun K hK xK => ⟨by omega, ih _ _ ⟨u + 1, K, by omega, by omega, rfl, u2.trans xK (fun _ _ z => z) (fun a q z => by omega), fun j hj => ?_⟩ (by omega)⟩)⟩
    rcases (show j = u ∨ j < u by omega) with z1 | z1
    · subst z1; exact hK
    · exact (u3 j z1).ex xK (by omega) (fun q => by omega)
theorem q_ask {S : St} {I : Im} {r : Rs} {Q : Int → Hp → Prop} (c : Cs r) (hR : Rc S I) (w : WF S) (k : ∀ I', Rc S I' → Ex aC I I' → Q (oAsk S) (I', r)) : C_X11_ask 2 (I, r) Q := by
  have ca := c.1
  unfold sRa at ca
  have b1 := c.2.2.2.2.2.2.2.1.1
  have okw := w.2.2.2.1
  have hwl := okw.1
  obtain ⟨t1, ⟨t2, t3, t4⟩, _, _, t5⟩ := c.2.2.2.1
  unfold oAsk at k
  have hst : couldB S < 64 := setOf_lt _ 6
  apply G_X11_ask
  unfold V_X11_ask
  simp only [hK_p, hL_p, hI_p, hR_p, wI_p, cpI_p, hN_p, forall_eq, true_and, and_true, ne_eq, not_true_eq_false, not_false_eq_true, true_implies, false_implies, imp_false, implies_true, if_true, if_false, reduceCtorEq, ca, b1]
  refine c_kinds c hR w (fun J0 xJ0 => ⟨by simp only [hK_p, b1], ?_⟩)
  generalize couldB S = st at *
  apply G_X3_bestToAsk
  unfold V_X3_bestToAsk
  refine c_bitCount hst ?_
  have b6 := bits_le st 6
  refine Lp_X3_bestToAsk_11_ind (fun x3 x4 x5 h => ∃ (i : Nat) (J : Im), x5 = i ∧ h = (J, r) ∧ i ≤ (sWl S).length ∧ Ex aRe I J ∧ (0 ≤ x4 ∧ x4 ≤ 6) ∧ askN st (-1) (bits st 6) 0 (sWl S) = askN st x3 x4 i ((sWl S).drop i)) (fun _ _ x5 _ => (sWl S).length - x5.toNat) ?_ _ _ _ _ ⟨0, J0, rfl, rfl, Nat.zero_le _, xJ0, ⟨by omega, by omega⟩, rfl⟩
  intro P best few x5 h hI ih
  obtain ⟨i, J, rfl, rfl, i1, i2, i3, i4⟩ := hI
  have hRJ : Rc S J := hR.kept okw (i2.mono (fun a q z => by omega))
  have e3 := hRJ.2.2.2.1.1
  unfold BLp_X3_bestToAsk_11
  simp only [hK_p, hL_p, hI_p, hR_p, wI_p, cpI_p, hN_p, forall_eq, true_and, and_true, ne_eq, not_true_eq_false, not_false_eq_true, true_implies, false_implies, imp_false, implies_true, if_true, if_false, reduceCtorEq, t1, t2, t3, t4, e3, b1]
  refine ⟨fun z => ?_, fun z => ⟨by omega, ?_⟩⟩
  · rw [List.drop_eq_nil_of_le (by omega)] at i4
    have k := k J hRJ (i2.mono (fun a q z => by omega))
    rw [i4] at k
    exact k
  · have hi : i < (sWl S).length := by omega
    obtain ⟨g1, g2⟩ := t5 i (by omega)
    obtain ⟨o1, o2, o3⟩ := okw.2 _ (List.getElem_mem hi)
    rw [g1]
    rw [List.drop_eq_getElem_cons hi] at i4
    have ml := mostN_le st (sWl S)[i] 6
    have i4 : askN st (-1) (bits st 6) 0 (sWl S) = if (mostN st (sWl S)[i] 6 : Int) < few then askN st i (mostN st (sWl S)[i] 6) ((i : Int) + 1) ((sWl S).drop (i + 1)) else askN st best few ((i : Int) + 1) ((sWl S).drop (i + 1)) := i4
    refine c_greatest c hst g2 (by omega) (by omega) (hRJ.2.2.2.1.2 i _ (List.getElem?_eq_getElem hi)) o2 o3 (fun K xK => ?_)
    have exK : Ex aRe I K := i2.trans xK (fun _ _ z => z) (fun _ _ z => z)
    refine ⟨fun z2 => ⟨by omega, ih _ _ _ _ ⟨i + 1, K, by omega, rfl, by omega, exK, i3, ?_⟩ (by omega)⟩, fun z2 => ⟨by omega, ih _ _ _ _ ⟨i + 1, K, by omega, rfl, by omega, exK, by omega, ?_⟩ (by omega)⟩⟩
    · rw [if_neg (by omega)] at i4
      rw [i4]; congr 1
    · rw [if_pos (by omega)] at i4
      rw [i4]; congr 1
