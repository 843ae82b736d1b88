/-! COMPONENT, part 6: its calls -/
theorem cSt.row {I I' : Im} {a : Nat} {n : NS} {ys : List Int} (h : cSt I a n) (hf : fg I' (a + 1) (a + 2) ys) (e : Ex (aF (a + 1) (a + 2)) I I') : cSt I' a (ys, n.2) := by
  obtain ⟨h1, h2, h3, h4, h5, h6⟩ := h
  refine ⟨hf, by rw [e _ _ (by omega)]; exact h2, by rw [e _ _ (by omega)]; exact h3, by rw [e.row (a + 3) (fun q => by omega)]; exact h4, by rw [e.row (a + 4) (fun q => by omega)]; exact h5, ?_⟩
  unfold okB
  rw [e.row (a + 3) (fun q => by omega), e.row (a + 4) (fun q => by omega)]; exact h6
theorem Rc.deed {S : St} {J K : Im} {ys : List Int} (h : Rc (uNP S (sNw S) (push S)) J) (w : WF S) (hf : fg K 40 41 ys) (e : Ex (aF 40 41) J K) : Rc (deed S ys) K :=
  Rc.now (n := (ys, (sNw S).2)) h w.2.2.2.1 (e.mono (fun a q z => by omega)) (h.2.2.2.2.1.row hf e)
theorem q_feed {S : St} {I : Im} {r : Rs} {l : Int} {Q : Int → Hp → Prop} (c : Cs r) (hR : Rc S I) (w : WF S) (k : ∀ I', Rc (oFeed S l).2 I' → Ex aC I I' → Q (oFeed S l).1 (I', r)) : C_X11_feed 2 l (I, r) Q := by
  have ca := c.1
  unfold sRa at ca
  obtain ⟨d1, ⟨d2, d3, d4⟩, _⟩ := c.2.1
  have ht := w.1.1
  obtain ⟨t1, t2⟩ := hR.1
  unfold oFeed at k
  apply G_X11_feed
  unfold V_X11_feed
  simp only [hK_p, hL_p, hI_p, hR_p, wI_p, cpI_p, hN_p, forall_eq, true_and, and_true, ne_eq, not_true_eq_false, not_false_eq_true, true_implies, false_implies, imp_false, implies_true, if_true, if_false, reduceCtorEq, ca, d1]
  refine ⟨fun z => ?_, fun z => ⟨fun z2 => ?_, fun z2 => ?_⟩⟩
  · rw [if_neg (by omega)] at k; exact k I hR (Ex.refl I)
  · rw [if_pos (by omega)] at k
    apply G_X1_append
    unfold V_X1_append
    have f1 : upI I 4 ((sTx S).length : Int) l 3 3 = (sTx S).length := by rw [upI_ne (by omega), t1]
    simp only [hK_p, hL_p, hI_p, hR_p, wI_p, cpI_p, hN_p, forall_eq, true_and, and_true, ne_eq, not_true_eq_false, not_false_eq_true, true_implies, false_implies, imp_false, implies_true, if_true, if_false, reduceCtorEq, ca, d1, d2, d3, d4, t1, f1, upI_self]
    refine ⟨fun z3 => ⟨by omega, by omega, by omega, fun z4 => absurd z4 (by decide), fun _ => ?_⟩, fun z3 => ?_⟩
    · rw [if_neg (by omega)] at k
      generalize hF : upI (upI I 4 ((sTx S).length : Int) l) 3 3 (((sTx S).length : Int) + 1) = F
      have exF : ∀ a q, ¬ (a = 4 ∨ (a = 3 ∧ q = 3)) → F a q = I a q := fun a q hq => by rw [← hF, upI_ne (by omega), upI_ne (by omega)]
      have er : ∀ a, a ≠ 3 → a ≠ 4 → F a = I a := fun a h1 h2 => funext fun q => exF a q (by omega)
      obtain ⟨h1, h2, h3, h4, h5, h6, h7, h8, h9, h10⟩ := hR
      refine k F ⟨⟨?_, ?_⟩, (exF _ _ (by omega)).trans h2, (exF _ _ (by omega)).trans h3, h4.kept w.2.2.2.1.1 (exF _ _ (by omega)) (fun b _ _ => er b (by omega) (by omega)), h5.kept (fun b _ _ => er b (by omega) (by omega)), h6.kept (fun b _ _ => er b (by omega) (by omega)), h7.kept (fun b _ _ => er b (by omega) (by omega)), (exF _ _ (by omega)).trans h8, h9.kept (exF _ _ (by omega)) (er _ (by omega) (by omega)) (er _ (by omega) (by omega)) (er _ (by omega) (by omega)), h10.kept (exF _ _ (by omega)) (er _ (by omega) (by omega)) (er _ (by omega) (by omega))⟩ (fun a q hq => exF a q (by omega))
      · rw [← hF, upI_self]; show _ = (((sTx S ++ [l]).length : Nat) : Int); simp
      · refine t2.snoc (fun q q0 q1 => ?_) ?_
        · rw [← hF, upI_ne (by omega), upI_ne (by omega)]
        · rw [← hF, upI_ne (by omega), Int.zero_add, upI_self]
    · rw [if_pos (by omega)] at k; exact k I hR (Ex.refl I)
  · rw [if_neg (by omega)] at k; exact k I hR (Ex.refl I)
theorem q_fault {S : St} {I : Im} {r : Rs} {Q : Int → Hp → Prop} (c : Cs r) (hR : Rc S I) (k : Q (sFl S) (I, r)) : C_X11_fault 2 (I, r) Q := by
  have ca := c.1
  unfold sRa at ca
  apply G_X11_fault
  unfold V_X11_fault
  simp only [hK_p, hL_p, hI_p, hR_p, wI_p, cpI_p, hN_p, forall_eq, true_and, and_true, ne_eq, not_true_eq_false, not_false_eq_true, true_implies, false_implies, imp_false, implies_true, if_true, if_false, reduceCtorEq, ca, c.2.1.1, hR.2.1]
  exact k
theorem q_at {S : St} {I : Im} {r : Rs} {p : Int} {Q : Int → Hp → Prop} (c : Cs r) (hR : Rc S I) (w : WF S) (k : Q (oAt S p) (I, r)) : C_X11_at 2 p (I, r) Q := by
  have ca := c.1
  unfold sRa at ca
  obtain ⟨s1, s2, s3, _⟩ := c.2.2.2.2.1
  have hl := w.2.2.2.2.1.1
  unfold oAt at k
  apply G_X11_at
  unfold V_X11_at
  refine c_isPlace (fun z => ⟨fun z2 => absurd z2 (by decide), fun _ => ?_⟩) (fun z => ⟨fun _ => ?_, fun z2 => absurd rfl z2⟩)
  · simp only [hK_p, hL_p, hI_p, hR_p, wI_p, cpI_p, hN_p, forall_eq, true_and, and_true, ne_eq, not_true_eq_false, not_false_eq_true, true_implies, false_implies, imp_false, implies_true, if_true, if_false, reduceCtorEq, ca, s1, s2, s3.1]
    rw [if_pos z] at k
    refine c_get s3 hR.2.2.2.2.1.1 (by omega) ?_
    rw [if_pos z.1]; exact k
  · rw [if_neg z] at k; exact k
theorem q_spelt {S : St} {I : Im} {r : Rs} {x q : Int} {Q : Int → Hp → Prop} (c : Cs r) (hR : Rc S I) (w : WF S) (k : Q (oSpelt S x q) (I, r)) : C_X11_spelt 2 x q (I, r) Q := by
  have ca := c.1
  unfold sRa at ca
  unfold oSpelt at k
  apply G_X11_spelt
  unfold V_X11_spelt
  simp only [hK_p, hL_p, hI_p, hR_p, wI_p, cpI_p, hN_p, forall_eq, true_and, and_true, ne_eq, not_true_eq_false, not_false_eq_true, true_implies, false_implies, imp_false, implies_true, if_true, if_false, reduceCtorEq, ca, c.2.2.2.1.1]
  refine c_wget c.2.2.2.1 hR.2.2.2.1 w.2.2.2.1 (fun z b d hb hd hs hg => ⟨fun _ => ?_, fun z2 => absurd (by omega) z2⟩) (fun z => ⟨fun z2 => absurd rfl z2, fun _ => ?_⟩)
  · rw [if_pos z] at k
    have okw := wl_ok w.2.2.2.1 z
    refine ⟨fun z2 => ?_, fun z2 => ⟨fun z3 => ⟨hs.1, c_get hs hg (by omega) ?_⟩, fun z3 => ?_⟩⟩
    · rw [if_neg (by omega)] at k; exact k
    · rw [if_pos (by omega)] at k; rw [if_pos (by omega)]; exact k
    · rw [if_neg (by omega)] at k; exact k
  · rw [if_neg z] at k; exact k
theorem q_logged {S : St} {I : Im} {r : Rs} {i q : Int} {Q : Int → Hp → Prop} (c : Cs r) (hR : Rc S I) (w : WF S) (k : Q (oLogged S i q) (I, r)) : C_X11_logged 2 i q (I, r) Q := by
  have ca := c.1
  unfold sRa at ca
  unfold oLogged at k
  apply G_X11_logged
  unfold V_X11_logged J_X11_logged_12
  simp only [hK_p, hL_p, hI_p, hR_p, wI_p, cpI_p, hN_p, forall_eq, true_and, and_true, ne_eq, not_true_eq_false, not_false_eq_true, true_implies, false_implies, imp_false, implies_true, if_true, if_false, reduceCtorEq, ca, c.2.2.2.2.1.1]
  have ok := w.2.2.2.2.1
  refine ⟨fun z => ⟨fun z2 => absurd z z2, fun _ => ?_⟩, fun z => ⟨fun z1 => ⟨fun _ => ?_, fun z2 => absurd z2 z⟩, fun z1 => ?_⟩⟩
  · refine c_loggedKind c.2.2.2.2.1 hR.2.2.2.2.1 ok ?_
    rw [if_pos (by omega), if_pos z] at k; exact k
  · refine c_loggedSize c.2.2.2.2.1 hR.2.2.2.2.1 ok ?_
    rw [if_pos (by omega), if_neg z] at k; exact k
  · rw [if_neg (by omega)] at k; exact k
theorem q_put {S : St} {I : Im} {r : Rs} {f : Int} {Q : Int → Hp → Prop} (c : Cs r) (hR : Rc S I) (w : WF S) (k : ∀ I', Rc (oPut S f).2 I' → Ex aC I I' → Q (oPut S f).1 (I', r)) : C_X11_put 2 f (I, r) Q := by
  have ca := c.1
  unfold sRa at ca
  obtain ⟨s1, s2, s3, _⟩ := c.2.2.2.2.1
  have hl := w.2.2.2.2.1.1
  have hn := hR.2.2.2.2.1.1
  unfold oPut at k
  apply G_X11_put
  unfold V_X11_put
  refine c_isFigure (fun z => ⟨fun _ => ?_, fun z2 => absurd z2 (by decide)⟩) (fun z => ⟨fun z2 => absurd rfl z2, fun _ => ?_⟩)
  · rw [if_pos z] at k
    simp only [hK_p, hL_p, hI_p, hR_p, wI_p, cpI_p, hN_p, forall_eq, true_and, and_true, ne_eq, not_true_eq_false, not_false_eq_true, true_implies, false_implies, imp_false, implies_true, if_true, if_false, reduceCtorEq, ca, s1, s2, s3.1, c.2.2.2.2.2.1.1, hn.1]
    refine ⟨fun z1 => ?_, fun z1 => ?_⟩
    · rw [if_neg (by omega)] at k
      refine c_remember c hR w (fun J hJ xJ => ?_)
      simp only [hK_p, hL_p, hI_p, hR_p, wI_p, cpI_p, hN_p, forall_eq, true_and, and_true, ne_eq, not_true_eq_false, not_false_eq_true, true_implies, false_implies, imp_false, implies_true, if_true, if_false, reduceCtorEq, ca, s1, s2, s3.1]
      refine c_add s3 hJ.2.2.2.2.1.1 (show (((sNw S).1.length : Nat) : Int) < 60 by omega) (by omega) (by omega) (fun K hK xK => ?_)
      simp only [hK_p, hL_p, hI_p, hR_p, wI_p, cpI_p, hN_p, forall_eq, true_and, and_true, ne_eq, not_true_eq_false, not_false_eq_true, true_implies, false_implies, imp_false, implies_true, if_true, if_false, reduceCtorEq, ca, s1, s2, s3.1, hK.1]
      have k := k K (hJ.deed w hK xK) (xJ.trans xK (fun a q z => by omega) (fun a q z => by omega))
      have e : ((((sNw S).1 ++ [f]).length : Nat) : Int) = (sNw S).1.length + 1 := by simp
      rw [← e] at k
      exact k
    · rw [if_pos (by omega)] at k; exact k I hR (Ex.refl I)
  · rw [if_neg z] at k; exact k I hR (Ex.refl I)
theorem q_word {S : St} {I : Im} {r : Rs} {x : Int} {Q : Int → Hp → Prop} (c : Cs r) (hR : Rc S I) (w : WF S) (k : ∀ I', Rc (oWord S x).2 I' → Ex aC I I' → Q (oWord S x).1 (I', r)) : C_X11_word 2 x (I, r) Q := by
  have ca := c.1
  unfold sRa at ca
  obtain ⟨s1, s2, s3, _⟩ := c.2.2.2.2.1
  have hl := w.2.2.2.2.1.1
  have hn := hR.2.2.2.2.1.1
  unfold oWord at k
  apply G_X11_word
  unfold V_X11_word
  simp only [hK_p, hL_p, hI_p, hR_p, wI_p, cpI_p, hN_p, forall_eq, true_and, and_true, ne_eq, not_true_eq_false, not_false_eq_true, true_implies, false_implies, imp_false, implies_true, if_true, if_false, reduceCtorEq, ca, c.2.2.2.1.1]
  refine c_wget c.2.2.2.1 hR.2.2.2.1 w.2.2.2.1 (fun z b d hb hd hs hg => ⟨fun _ => ?_, fun z2 => absurd (by omega) z2⟩) (fun z => ⟨fun z2 => absurd rfl z2, fun _ => ?_⟩)
  · rw [if_pos z] at k
    have okw := wl_ok w.2.2.2.1 z
    rw [show (sWl S).getD x.toNat [] = wd S x from rfl] at okw hg
    have hwl := w.2.2.2.1.1
    simp only [hK_p, hL_p, hI_p, hR_p, wI_p, cpI_p, hN_p, forall_eq, true_and, and_true, ne_eq, not_true_eq_false, not_false_eq_true, true_implies, false_implies, imp_false, implies_true, if_true, if_false, reduceCtorEq, ca, s1, s2, s3.1, c.2.2.2.2.2.1.1, hn.1, hs.1, hg.1]
    refine ⟨by omega, fun z1 => ?_, fun z1 => ?_⟩
    · rw [if_neg (by omega)] at k
      refine c_remember c hR w (fun J hJ xJ => ?_)
      simp only [hK_p, hL_p, hI_p, hR_p, wI_p, cpI_p, hN_p, forall_eq, true_and, and_true, ne_eq, not_true_eq_false, not_false_eq_true, true_implies, false_implies, imp_false, implies_true, if_true, if_false, reduceCtorEq, ca, s1, s2, s3.1]
      refine c_addAll s3 hs (by omega) hJ.2.2.2.2.1.1 (hg.ex xJ (by omega) (fun q => by omega)) (show (((sNw S).1.length : Nat) : Int) + _ ≤ 60 by omega) (by omega) (by omega) okw.2.2 (fun K hK xK => ?_)
      simp only [hK_p, hL_p, hI_p, hR_p, wI_p, cpI_p, hN_p, forall_eq, true_and, and_true, ne_eq, not_true_eq_false, not_false_eq_true, true_implies, false_implies, imp_false, implies_true, if_true, if_false, reduceCtorEq, ca, s1, s2, s3.1, hK.1]
      have k := k K (hJ.deed w hK xK) (xJ.trans xK (fun a q z => by omega) (fun a q z => by omega))
      have e : ((((sNw S).1 ++ wd S x).length : Nat) : Int) = (sNw S).1.length + (wd S x).length := by simp
      rw [← e] at k
      exact k
    · rw [if_pos (by omega)] at k; exact k I hR (Ex.refl I)
  · rw [if_neg z] at k; exact k I hR (Ex.refl I)
theorem q_change {S : St} {I : Im} {r : Rs} {p f : Int} {Q : Int → Hp → Prop} (c : Cs r) (hR : Rc S I) (w : WF S) (k : ∀ I', Rc (oChange S p f).2 I' → Ex aC I I' → Q (oChange S p f).1 (I', r)) : C_X11_change 2 p f (I, r) Q := by
  have ca := c.1
  unfold sRa at ca
  obtain ⟨s1, s2, s3, _⟩ := c.2.2.2.2.1
  have hl := w.2.2.2.2.1.1
  have hf := w.2.2.2.2.1.2.1
  have hn := hR.2.2.2.2.1.1
  unfold oChange at k
  apply G_X11_change
  unfold V_X11_change
  simp only [hK_p, hL_p, hI_p, hR_p, wI_p, cpI_p, hN_p, forall_eq, true_and, and_true, ne_eq, not_true_eq_false, not_false_eq_true, true_implies, false_implies, imp_false, implies_true, if_true, if_false, reduceCtorEq, ca, s1, s2, s3.1]
  refine c_get s3 hn (by omega) ?_
  by_cases z : 0 ≤ p ∧ p ≤ ((sNw S).1.length : Int) - 1
  · rw [if_pos z.1]
    rw [if_pos z] at k
    have hp : p.toNat < (sNw S).1.length := by omega
    have e1 : (sNw S).1.getD p.toNat (-1) = (sNw S).1.getD p.toNat 0 := by rw [List.getD_eq_getElem?_getD, List.getD_eq_getElem?_getD, List.getElem?_eq_getElem hp]; rfl
    have fr := hf.at hp
    rw [e1]
    refine ⟨fun _ => ?_, fun z2 => absurd z2 (by omega)⟩
    refine c_isFigure (fun z2 => ⟨fun _ => ?_, fun z3 => absurd z3 (by decide)⟩) (fun z2 => ⟨fun z3 => absurd rfl z3, fun _ => ?_⟩)
    · rw [if_pos z2] at k
      simp only [hK_p, hL_p, hI_p, hR_p, wI_p, cpI_p, hN_p, forall_eq, true_and, and_true, ne_eq, not_true_eq_false, not_false_eq_true, true_implies, false_implies, imp_false, implies_true, if_true, if_false, reduceCtorEq, ca, c.2.2.2.2.2.1.1]
      refine c_remember c hR w (fun J hJ xJ => ?_)
      simp only [hK_p, hL_p, hI_p, hR_p, wI_p, cpI_p, hN_p, forall_eq, true_and, and_true, ne_eq, not_true_eq_false, not_false_eq_true, true_implies, false_implies, imp_false, implies_true, if_true, if_false, reduceCtorEq, ca, s1, s2, s3.1]
      refine c_set s3 hJ.2.2.2.2.1.1 (show (((sNw S).1.length : Nat) : Int) ≤ 60 by omega) (show 0 ≤ p ∧ p < (((sNw S).1.length : Nat) : Int) by omega) (by omega) (fun K hK xK => ?_)
      exact k K (hJ.deed w hK xK) (xJ.trans xK (fun a q z => by omega) (fun a q z => by omega))
    · rw [if_neg z2] at k; exact k I hR (Ex.refl I)
  · rw [if_neg z] at k
    have e : (if 0 ≤ p then (sNw S).1.getD p.toNat (-1) else -1) = -1 := by
      by_cases z2 : 0 ≤ p
      · rw [if_pos z2, List.getD_eq_getElem?_getD, List.getElem?_eq_none (by omega)]; rfl
      · rw [if_neg z2]
    rw [e]
    exact ⟨fun z2 => absurd rfl z2, fun _ => k I hR (Ex.refl I)⟩
theorem q_drop {S : St} {I : Im} {r : Rs} {n : Int} {Q : Int → Hp → Prop} (c : Cs r) (hR : Rc S I) (w : WF S) (k : ∀ I', Rc (oDrop S n).2 I' → Ex aC I I' → Q (oDrop S n).1 (I', r)) : C_X11_drop 2 n (I, r) Q := by
  have ca := c.1
  unfold sRa at ca
  obtain ⟨s1, s2, s3, _⟩ := c.2.2.2.2.1
  have hl := w.2.2.2.2.1.1
  have hn := hR.2.2.2.2.1.1
  unfold oDrop at k
  apply G_X11_drop
  unfold V_X11_drop
  simp only [hK_p, hL_p, hI_p, hR_p, wI_p, cpI_p, hN_p, forall_eq, true_and, and_true, ne_eq, not_true_eq_false, not_false_eq_true, true_implies, false_implies, imp_false, implies_true, if_true, if_false, reduceCtorEq, ca, s1, s2, s3.1, hn.1, c.2.2.2.2.2.1.1]
  refine ⟨fun z => ?_, fun z => ⟨fun z2 => ?_, fun z2 => ?_⟩⟩
  · rw [if_neg (by omega)] at k; exact k I hR (Ex.refl I)
  · rw [if_pos (by omega)] at k
    refine c_remember c hR w (fun J hJ xJ => ?_)
    simp only [hK_p, hL_p, hI_p, hR_p, wI_p, cpI_p, hN_p, forall_eq, true_and, and_true, ne_eq, not_true_eq_false, not_false_eq_true, true_implies, false_implies, imp_false, implies_true, if_true, if_false, reduceCtorEq, ca, s1, s2, s3.1]
    refine c_cut s3 hJ.2.2.2.2.1.1 (show (((sNw S).1.length : Nat) : Int) ≤ 60 by omega) (by omega) (show 0 ≤ n ∧ n ≤ (((sNw S).1.length : Nat) : Int) by omega) (fun K hK xK => ?_)
    simp only [hK_p, hL_p, hI_p, hR_p, wI_p, cpI_p, hN_p, forall_eq, true_and, and_true, ne_eq, not_true_eq_false, not_false_eq_true, true_implies, false_implies, imp_false, implies_true, if_true, if_false, reduceCtorEq, ca, s1, s2, s3.1, hK.1]
    have k := k K (hJ.deed w hK xK) (xJ.trans xK (fun a q z => by omega) (fun a q z => by omega))
    have e : ((((sNw S).1.take ((sNw S).1.length - n.toNat)).length : Nat) : Int) = (sNw S).1.length - n := by rw [List.length_take]; omega
    rw [← e] at k
    exact k
  · rw [if_neg (by omega)] at k; exact k I hR (Ex.refl I)
theorem q_turn {S : St} {I : Im} {r : Rs} {Q : Int → Hp → Prop} (c : Cs r) (hR : Rc S I) (w : WF S) (k : ∀ I', Rc (oTurn S).2 I' → Ex aC I I' → Q (oTurn S).1 (I', r)) : C_X11_turn 2 (I, r) Q := by
  have ca := c.1
  unfold sRa at ca
  obtain ⟨s1, s2, s3, _⟩ := c.2.2.2.2.1
  have hl := w.2.2.2.2.1.1
  have hn := hR.2.2.2.2.1.1
  unfold oTurn at k
  apply G_X11_turn
  unfold V_X11_turn
  simp only [hK_p, hL_p, hI_p, hR_p, wI_p, cpI_p, hN_p, forall_eq, true_and, and_true, ne_eq, not_true_eq_false, not_false_eq_true, true_implies, false_implies, imp_false, implies_true, if_true, if_false, reduceCtorEq, ca, c.2.2.2.2.2.1.1]
  refine c_remember c hR w (fun J hJ xJ => ?_)
  simp only [hK_p, hL_p, hI_p, hR_p, wI_p, cpI_p, hN_p, forall_eq, true_and, and_true, ne_eq, not_true_eq_false, not_false_eq_true, true_implies, false_implies, imp_false, implies_true, if_true, if_false, reduceCtorEq, ca, s1, s2, s3.1]
  refine c_reverse s3 hJ.2.2.2.2.1.1 (show (((sNw S).1.length : Nat) : Int) ≤ 60 by omega) (by omega) w.2.2.2.2.1.2.1 (fun K hK xK => ?_)
  simp only [hK_p, hL_p, hI_p, hR_p, wI_p, cpI_p, hN_p, forall_eq, true_and, and_true, ne_eq, not_true_eq_false, not_false_eq_true, true_implies, false_implies, imp_false, implies_true, if_true, if_false, reduceCtorEq, ca, s1, s2, s3.1]
  refine c_get s3 hK (show (((sNw S).1.reverse.length : Nat) : Int) ≤ 60 by rw [List.length_reverse]; omega) ?_
  rw [if_pos (by omega)]
  exact k K (hJ.deed w hK xK) (xJ.trans xK (fun a q z => by omega) (fun a q z => by omega))
