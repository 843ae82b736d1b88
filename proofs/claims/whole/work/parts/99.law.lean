/-! THE LAW: the object and the other one, call by call -/
theorem Rm.far {S : St} {I I' : Im} (h : Rm S I) (e : ∀ a : Nat, 363 ≤ a → a < 389 → I' a = I a) : Rm S I' := by
  obtain ⟨h1, h2, h3, h4, h5, h6, h7, h8, h9, h10⟩ := h
  have z : ∀ q : Int, I' 363 q = I 363 q := fun q => by rw [e 363 (by omega) (by omega)]
  exact ⟨h1.kept (z _) (e _ (by omega) (by omega)), (z _).trans h2, (z _).trans h3, h4.kept (z _) (e _ (by omega) (by omega)) (e _ (by omega) (by omega)), by rw [e 370 (by omega) (by omega)]; exact h5, h6.kept (z _) (e _ (by omega) (by omega)), h7.kept (e _ (by omega) (by omega)) (e _ (by omega) (by omega)) (e _ (by omega) (by omega)), (z _).trans h8, h9.kept (z _) (e _ (by omega) (by omega)) (e _ (by omega) (by omega)) (e _ (by omega) (by omega)), h10.kept (z _) (e _ (by omega) (by omega)) (e _ (by omega) (by omega))⟩
theorem Rc.far {S : St} {I I' : Im} (h : Rc S I) (w : okWl (sWl S)) (e : ∀ a : Nat, a < 363 → I' a = I a) : Rc S I' := by
  obtain ⟨h1, h2, h3, h4, h5, h6, h7, h8, h9, h10⟩ := h
  have z : ∀ (a : Nat) (q : Int), a < 363 → I' a q = I a q := fun a q ha => by rw [e a ha]
  exact ⟨h1.kept (z _ _ (by omega)) (e _ (by omega)), (z _ _ (by omega)).trans h2, (z _ _ (by omega)).trans h3, h4.kept w.1 (z _ _ (by omega)) (fun b b0 b1 => e b (by omega)), h5.kept (fun b b0 b1 => e b (by omega)), h6.kept (fun b b0 b1 => e b (by omega)), h7.kept (fun b b0 b1 => e b (by omega)), (z _ _ (by omega)).trans h8, h9.kept (z _ _ (by omega)) (e _ (by omega)) (e _ (by omega)) (e _ (by omega)), h10.kept (z _ _ (by omega)) (e _ (by omega)) (e _ (by omega))⟩
def Lw (sc : Int → Int) (n : Int) (S : St) (I : Im) (r : Rs) : Prop := Cs r ∧ Mst r ∧ Dyn r ∧ Rc S I ∧ Rm S I ∧ WF S ∧ (∀ k, I 1 k = sc k) ∧ rL r 1 = n
def Md (sc : Int → Int) (n : Int) (S : St) (I : Im) (r : Rs) : Prop := Cs r ∧ Mst r ∧ Dyn r ∧ Rm S I ∧ (∀ k, I 1 k = sc k) ∧ rL r 1 = n
theorem Lw.mid {sc : Int → Int} {n : Int} {S : St} {I J : Im} {r r' : Rs} (l : Lw sc n S I r) (x : Ex aC I J) (o : Op r r') : Md sc n S J r' := by
  obtain ⟨c, m, d, hRc, hRm, w, s1, L1⟩ := l
  exact ⟨c.of o.1, m.of o.1, o.2 d, hRm.far (fun a h1 h2 => x.row a (fun k => by omega)), fun k => by rw [x 1 k (by omega), s1 k], by rw [o.1.2.2 1 (by omega), L1]⟩
theorem Md.fin {sc : Int → Int} {n : Int} {S S' : St} {J K : Im} {r : Rs} (l : Md sc n S J r) (hJ : Rc S' J) (w : WF S') (hK : Rm S' K) (x : Ex aM J K) : Lw sc n S' K r := by
  obtain ⟨c, m, d, hRm, s1, L1⟩ := l
  exact ⟨c, m, d, hJ.far w.2.2.2.1 (fun a h => x.row a (fun k => by omega)), hK, w, fun k => by rw [x 1 k (by omega), s1 k], L1⟩
theorem law_loop {sc : Int → Int} {n : Int} {S : St} {I : Im} {r : Rs} {Q : Int → Hp → Prop} (hn : 0 ≤ n ∧ n ≤ 2048) (sb : ∀ k, -2147483648 ≤ sc k ∧ sc k ≤ 2147483647) (l : Lw sc n S I r) (k : ∀ S' I' r', Lw sc n S' I' r' → Q 1 (I', r')) : Lp_L_law_18 2 363 0 (I, r) Q := by
  refine Lp_L_law_18_ind (fun x hh => ∃ (S : St) (I : Im) (r : Rs), hh = (I, r) ∧ 0 ≤ x ∧ Lw sc n S I r) (fun x _ => (n - x).toNat) ?_ _ _ ⟨S, I, r, rfl, Int.le_refl _, l⟩
  clear l
  intro P x3 hh hI ih
  obtain ⟨S, I, r, rfl, hx, l⟩ := hI
  have l' := l
  obtain ⟨c, m, d, hRc, hRm, w, s1, L1⟩ := l'
  have c0 : rK r 2 = 10 := c.1.1
  unfold BLp_L_law_18
  have L2 : hL (I, r) 1 = n := L1
  rw [L2]
  refine ⟨by omega, fun z => k S I r l, fun z0 => ?_⟩
  have fin : ∀ S' I' r', Lw sc n S' I' r' → P (x3 + 4) (I', r') := fun S' I' r' l' => ih _ _ ⟨S', I', r', rfl, by omega, l'⟩ (by omega)
  refine ⟨by omega, fun z => ⟨by omega, fin S I r l⟩, fun z => ?_, fun z => ?_, fun z => ?_, fun z => ?_, fun z => ?_, fun z => ?_, fun z => ?_, fun z => ?_, fun z => ?_, fun z => ?_, fun z => ?_, fun z => ?_, fun z => ?_, fun z => ?_, fun z => ?_, fun z => ?_, fun z => ?_, fun z => ?_, fun z => ?_, fun z => ?_, fun z => ?_, fun z => ?_, fun z => ?_, fun z => ?_, fun z => ?_, fun z => ?_, fun z => ?_, fun z => ?_, fun z => ?_, fun z => ?_, fun z => ?_, fun z => ?_, fun z => ?_, fun z => ?_, fun z => ?_⟩
  · clear z
    simp only [hK_p, hL_p, hI_p, hR_p, wI_p, cpI_p, hN_p, forall_eq, true_and, and_true, ne_eq, not_true_eq_false, not_false_eq_true, true_implies, false_implies, imp_false, implies_true, if_true, if_false, reduceCtorEq, s1, c0, L1]
    refine ⟨by omega, by omega, q_feed c hRc w (fun J hJ xJ => ?_)⟩
    have md := l.mid xJ (Op.refl r)
    obtain ⟨c2, m2, d2, hRm2, t1, t2⟩ := l.mid xJ (Op.refl r)
    simp only [hK_p, hL_p, hI_p, hR_p, wI_p, cpI_p, hN_p, forall_eq, true_and, and_true, ne_eq, not_true_eq_false, not_false_eq_true, true_implies, false_implies, imp_false, implies_true, if_true, if_false, reduceCtorEq, t1, t2, m2.1]
    exact ⟨by omega, by omega, m_feed m2 hRm2 w (fun K hK xK => ⟨fun _ => ⟨by omega, fin _ _ _ (md.fin hJ (wf_feed w) hK xK)⟩, fun z => absurd rfl z⟩)⟩
  · clear z
    simp only [hK_p, hL_p, hI_p, hR_p, wI_p, cpI_p, hN_p, forall_eq, true_and, and_true, ne_eq, not_true_eq_false, not_false_eq_true, true_implies, false_implies, imp_false, implies_true, if_true, if_false, reduceCtorEq, s1, c0, L1]
    refine q_desk c hRc w (fun J r' hJ xJ o => ?_)
    have md := l.mid xJ o
    obtain ⟨c2, m2, d2, hRm2, t1, t2⟩ := l.mid xJ o
    simp only [hK_p, hL_p, hI_p, hR_p, wI_p, cpI_p, hN_p, forall_eq, true_and, and_true, ne_eq, not_true_eq_false, not_false_eq_true, true_implies, false_implies, imp_false, implies_true, if_true, if_false, reduceCtorEq, t1, t2, m2.1]
    exact m_desk m2 hRm2 w (fun K hK xK => ⟨fun _ => ⟨by omega, fin _ _ _ (md.fin hJ (wf_desk w) hK xK)⟩, fun z => absurd rfl z⟩)
  · clear z
    simp only [hK_p, hL_p, hI_p, hR_p, wI_p, cpI_p, hN_p, forall_eq, true_and, and_true, ne_eq, not_true_eq_false, not_false_eq_true, true_implies, false_implies, imp_false, implies_true, if_true, if_false, reduceCtorEq, s1, c0, L1]
    refine q_fault c hRc ?_
    simp only [hK_p, hL_p, hI_p, hR_p, wI_p, cpI_p, hN_p, forall_eq, true_and, and_true, ne_eq, not_true_eq_false, not_false_eq_true, true_implies, false_implies, imp_false, implies_true, if_true, if_false, reduceCtorEq, s1, c0, L1, m.1]
    exact m_fault m hRm ⟨fun _ => ⟨by omega, fin _ _ _ l⟩, fun z => absurd rfl z⟩
  · clear z
    simp only [hK_p, hL_p, hI_p, hR_p, wI_p, cpI_p, hN_p, forall_eq, true_and, and_true, ne_eq, not_true_eq_false, not_false_eq_true, true_implies, false_implies, imp_false, implies_true, if_true, if_false, reduceCtorEq, s1, c0, L1]
    refine ⟨by omega, by omega, q_told c hRc w (fun J hJ xJ => ?_)⟩
    have md := l.mid xJ (Op.refl r)
    obtain ⟨c2, m2, d2, hRm2, t1, t2⟩ := l.mid xJ (Op.refl r)
    simp only [hK_p, hL_p, hI_p, hR_p, wI_p, cpI_p, hN_p, forall_eq, true_and, and_true, ne_eq, not_true_eq_false, not_false_eq_true, true_implies, false_implies, imp_false, implies_true, if_true, if_false, reduceCtorEq, t1, t2, m2.1]
    exact ⟨by omega, by omega, m_told m2 hRm2 w (fun K hK xK => ⟨fun _ => ⟨by omega, fin _ _ _ (md.fin hJ w hK xK)⟩, fun z => absurd rfl z⟩)⟩
  · clear z
    simp only [hK_p, hL_p, hI_p, hR_p, wI_p, cpI_p, hN_p, forall_eq, true_and, and_true, ne_eq, not_true_eq_false, not_false_eq_true, true_implies, false_implies, imp_false, implies_true, if_true, if_false, reduceCtorEq, s1, c0, L1]
    refine ⟨by omega, by omega, q_at c hRc w ?_⟩
    simp only [hK_p, hL_p, hI_p, hR_p, wI_p, cpI_p, hN_p, forall_eq, true_and, and_true, ne_eq, not_true_eq_false, not_false_eq_true, true_implies, false_implies, imp_false, implies_true, if_true, if_false, reduceCtorEq, s1, c0, L1, m.1]
    exact ⟨by omega, by omega, m_at m hRm w ⟨fun _ => ⟨by omega, fin _ _ _ l⟩, fun z => absurd rfl z⟩⟩
  · clear z
    simp only [hK_p, hL_p, hI_p, hR_p, wI_p, cpI_p, hN_p, forall_eq, true_and, and_true, ne_eq, not_true_eq_false, not_false_eq_true, true_implies, false_implies, imp_false, implies_true, if_true, if_false, reduceCtorEq, s1, c0, L1]
    refine ⟨by omega, by omega, by omega, by omega, q_spelt c hRc w ?_⟩
    simp only [hK_p, hL_p, hI_p, hR_p, wI_p, cpI_p, hN_p, forall_eq, true_and, and_true, ne_eq, not_true_eq_false, not_false_eq_true, true_implies, false_implies, imp_false, implies_true, if_true, if_false, reduceCtorEq, s1, c0, L1, m.1]
    exact ⟨by omega, by omega, by omega, by omega, m_spelt m hRm w ⟨fun _ => ⟨by omega, fin _ _ _ l⟩, fun z => absurd rfl z⟩⟩
  · clear z
    simp only [hK_p, hL_p, hI_p, hR_p, wI_p, cpI_p, hN_p, forall_eq, true_and, and_true, ne_eq, not_true_eq_false, not_false_eq_true, true_implies, false_implies, imp_false, implies_true, if_true, if_false, reduceCtorEq, s1, c0, L1]
    refine ⟨by omega, by omega, by omega, by omega, q_logged c hRc w ?_⟩
    simp only [hK_p, hL_p, hI_p, hR_p, wI_p, cpI_p, hN_p, forall_eq, true_and, and_true, ne_eq, not_true_eq_false, not_false_eq_true, true_implies, false_implies, imp_false, implies_true, if_true, if_false, reduceCtorEq, s1, c0, L1, m.1]
    exact ⟨by omega, by omega, by omega, by omega, m_logged m hRm w ⟨fun _ => ⟨by omega, fin _ _ _ l⟩, fun z => absurd rfl z⟩⟩
  · clear z
    simp only [hK_p, hL_p, hI_p, hR_p, wI_p, cpI_p, hN_p, forall_eq, true_and, and_true, ne_eq, not_true_eq_false, not_false_eq_true, true_implies, false_implies, imp_false, implies_true, if_true, if_false, reduceCtorEq, s1, c0, L1]
    refine ⟨by omega, by omega, q_read c hRc w (fun J hJ xJ => ?_)⟩
    have md := l.mid xJ (Op.refl r)
    obtain ⟨c2, m2, d2, hRm2, t1, t2⟩ := l.mid xJ (Op.refl r)
    simp only [hK_p, hL_p, hI_p, hR_p, wI_p, cpI_p, hN_p, forall_eq, true_and, and_true, ne_eq, not_true_eq_false, not_false_eq_true, true_implies, false_implies, imp_false, implies_true, if_true, if_false, reduceCtorEq, t1, t2, m2.1]
    exact ⟨by omega, by omega, m_read m2 hRm2 w (fun K hK xK => ⟨fun _ => ⟨by omega, fin _ _ _ (md.fin hJ (wf_read w) hK xK)⟩, fun z => absurd rfl z⟩)⟩
  · clear z
    simp only [hK_p, hL_p, hI_p, hR_p, wI_p, cpI_p, hN_p, forall_eq, true_and, and_true, ne_eq, not_true_eq_false, not_false_eq_true, true_implies, false_implies, imp_false, implies_true, if_true, if_false, reduceCtorEq, s1, c0, L1]
    refine q_unread c hRc w (fun J hJ xJ => ?_)
    have md := l.mid xJ (Op.refl r)
    obtain ⟨c2, m2, d2, hRm2, t1, t2⟩ := l.mid xJ (Op.refl r)
    simp only [hK_p, hL_p, hI_p, hR_p, wI_p, cpI_p, hN_p, forall_eq, true_and, and_true, ne_eq, not_true_eq_false, not_false_eq_true, true_implies, false_implies, imp_false, implies_true, if_true, if_false, reduceCtorEq, t1, t2, m2.1]
    exact m_unread m2 hRm2 w (fun K hK xK => ⟨fun _ => ⟨by omega, fin _ _ _ (md.fin hJ (wf_unread w) hK xK)⟩, fun z => absurd rfl z⟩)
  · clear z
    simp only [hK_p, hL_p, hI_p, hR_p, wI_p, cpI_p, hN_p, forall_eq, true_and, and_true, ne_eq, not_true_eq_false, not_false_eq_true, true_implies, false_implies, imp_false, implies_true, if_true, if_false, reduceCtorEq, s1, c0, L1]
    refine ⟨by omega, by omega, q_put c hRc w (fun J hJ xJ => ?_)⟩
    have md := l.mid xJ (Op.refl r)
    obtain ⟨c2, m2, d2, hRm2, t1, t2⟩ := l.mid xJ (Op.refl r)
    simp only [hK_p, hL_p, hI_p, hR_p, wI_p, cpI_p, hN_p, forall_eq, true_and, and_true, ne_eq, not_true_eq_false, not_false_eq_true, true_implies, false_implies, imp_false, implies_true, if_true, if_false, reduceCtorEq, t1, t2, m2.1]
    exact ⟨by omega, by omega, m_put m2 hRm2 w (fun K hK xK => ⟨fun _ => ⟨by omega, fin _ _ _ (md.fin hJ (wf_put w) hK xK)⟩, fun z => absurd rfl z⟩)⟩
  · clear z
    simp only [hK_p, hL_p, hI_p, hR_p, wI_p, cpI_p, hN_p, forall_eq, true_and, and_true, ne_eq, not_true_eq_false, not_false_eq_true, true_implies, false_implies, imp_false, implies_true, if_true, if_false, reduceCtorEq, s1, c0, L1]
    refine ⟨by omega, by omega, q_word c hRc w (fun J hJ xJ => ?_)⟩
    have md := l.mid xJ (Op.refl r)
    obtain ⟨c2, m2, d2, hRm2, t1, t2⟩ := l.mid xJ (Op.refl r)
    simp only [hK_p, hL_p, hI_p, hR_p, wI_p, cpI_p, hN_p, forall_eq, true_and, and_true, ne_eq, not_true_eq_false, not_false_eq_true, true_implies, false_implies, imp_false, implies_true, if_true, if_false, reduceCtorEq, t1, t2, m2.1]
    exact ⟨by omega, by omega, m_word m2 hRm2 w (fun K hK xK => ⟨fun _ => ⟨by omega, fin _ _ _ (md.fin hJ (wf_word w) hK xK)⟩, fun z => absurd rfl z⟩)⟩
  · clear z
    simp only [hK_p, hL_p, hI_p, hR_p, wI_p, cpI_p, hN_p, forall_eq, true_and, and_true, ne_eq, not_true_eq_false, not_false_eq_true, true_implies, false_implies, imp_false, implies_true, if_true, if_false, reduceCtorEq, s1, c0, L1]
    refine ⟨by omega, by omega, by omega, by omega, q_change c hRc w (fun J hJ xJ => ?_)⟩
    have md := l.mid xJ (Op.refl r)
    obtain ⟨c2, m2, d2, hRm2, t1, t2⟩ := l.mid xJ (Op.refl r)
    simp only [hK_p, hL_p, hI_p, hR_p, wI_p, cpI_p, hN_p, forall_eq, true_and, and_true, ne_eq, not_true_eq_false, not_false_eq_true, true_implies, false_implies, imp_false, implies_true, if_true, if_false, reduceCtorEq, t1, t2, m2.1]
    exact ⟨by omega, by omega, by omega, by omega, m_change m2 hRm2 w (fun K hK xK => ⟨fun _ => ⟨by omega, fin _ _ _ (md.fin hJ (wf_change w) hK xK)⟩, fun z => absurd rfl z⟩)⟩
  · clear z
    simp only [hK_p, hL_p, hI_p, hR_p, wI_p, cpI_p, hN_p, forall_eq, true_and, and_true, ne_eq, not_true_eq_false, not_false_eq_true, true_implies, false_implies, imp_false, implies_true, if_true, if_false, reduceCtorEq, s1, c0, L1]
    refine ⟨by omega, by omega, q_drop c hRc w (fun J hJ xJ => ?_)⟩
    have md := l.mid xJ (Op.refl r)
    obtain ⟨c2, m2, d2, hRm2, t1, t2⟩ := l.mid xJ (Op.refl r)
    simp only [hK_p, hL_p, hI_p, hR_p, wI_p, cpI_p, hN_p, forall_eq, true_and, and_true, ne_eq, not_true_eq_false, not_false_eq_true, true_implies, false_implies, imp_false, implies_true, if_true, if_false, reduceCtorEq, t1, t2, m2.1]
    exact ⟨by omega, by omega, m_drop m2 hRm2 w (fun K hK xK => ⟨fun _ => ⟨by omega, fin _ _ _ (md.fin hJ (wf_drop w) hK xK)⟩, fun z => absurd rfl z⟩)⟩
  · clear z
    simp only [hK_p, hL_p, hI_p, hR_p, wI_p, cpI_p, hN_p, forall_eq, true_and, and_true, ne_eq, not_true_eq_false, not_false_eq_true, true_implies, false_implies, imp_false, implies_true, if_true, if_false, reduceCtorEq, s1, c0, L1]
    refine q_turn c hRc w (fun J hJ xJ => ?_)
    have md := l.mid xJ (Op.refl r)
    obtain ⟨c2, m2, d2, hRm2, t1, t2⟩ := l.mid xJ (Op.refl r)
    simp only [hK_p, hL_p, hI_p, hR_p, wI_p, cpI_p, hN_p, forall_eq, true_and, and_true, ne_eq, not_true_eq_false, not_false_eq_true, true_implies, false_implies, imp_false, implies_true, if_true, if_false, reduceCtorEq, t1, t2, m2.1]
    exact m_turn m2 hRm2 w (fun K hK xK => ⟨fun _ => ⟨by omega, fin _ _ _ (md.fin hJ (wf_turn w) hK xK)⟩, fun z => absurd rfl z⟩)
  · clear z
    simp only [hK_p, hL_p, hI_p, hR_p, wI_p, cpI_p, hN_p, forall_eq, true_and, and_true, ne_eq, not_true_eq_false, not_false_eq_true, true_implies, false_implies, imp_false, implies_true, if_true, if_false, reduceCtorEq, s1, c0, L1]
    refine ⟨by omega, by omega, q_drift c hRc w (fun J hJ xJ => ?_)⟩
    have md := l.mid xJ (Op.refl r)
    obtain ⟨c2, m2, d2, hRm2, t1, t2⟩ := l.mid xJ (Op.refl r)
    simp only [hK_p, hL_p, hI_p, hR_p, wI_p, cpI_p, hN_p, forall_eq, true_and, and_true, ne_eq, not_true_eq_false, not_false_eq_true, true_implies, false_implies, imp_false, implies_true, if_true, if_false, reduceCtorEq, t1, t2, m2.1]
    exact ⟨by omega, by omega, m_drift m2 hRm2 w (fun K hK xK => ⟨fun _ => ⟨by omega, fin _ _ _ (md.fin hJ (wf_drift w) hK xK)⟩, fun z => absurd rfl z⟩)⟩
  · clear z
    simp only [hK_p, hL_p, hI_p, hR_p, wI_p, cpI_p, hN_p, forall_eq, true_and, and_true, ne_eq, not_true_eq_false, not_false_eq_true, true_implies, false_implies, imp_false, implies_true, if_true, if_false, reduceCtorEq, s1, c0, L1]
    refine ⟨by omega, by omega, q_undo c hRc w (fun J hJ xJ => ?_)⟩
    have md := l.mid xJ (Op.refl r)
    obtain ⟨c2, m2, d2, hRm2, t1, t2⟩ := l.mid xJ (Op.refl r)
    simp only [hK_p, hL_p, hI_p, hR_p, wI_p, cpI_p, hN_p, forall_eq, true_and, and_true, ne_eq, not_true_eq_false, not_false_eq_true, true_implies, false_implies, imp_false, implies_true, if_true, if_false, reduceCtorEq, t1, t2, m2.1]
    exact ⟨by omega, by omega, m_undo m2 hRm2 w (fun K hK xK => ⟨fun _ => ⟨by omega, fin _ _ _ (md.fin hJ (wf_undo w) hK xK)⟩, fun z => absurd rfl z⟩)⟩
  · clear z
    simp only [hK_p, hL_p, hI_p, hR_p, wI_p, cpI_p, hN_p, forall_eq, true_and, and_true, ne_eq, not_true_eq_false, not_false_eq_true, true_implies, false_implies, imp_false, implies_true, if_true, if_false, reduceCtorEq, s1, c0, L1]
    refine ⟨by omega, by omega, by omega, by omega, q_length c d hRc w (fun J r' hJ xJ o => ?_)⟩
    have md := l.mid xJ o
    obtain ⟨c2, m2, d2, hRm2, t1, t2⟩ := l.mid xJ o
    simp only [hK_p, hL_p, hI_p, hR_p, wI_p, cpI_p, hN_p, forall_eq, true_and, and_true, ne_eq, not_true_eq_false, not_false_eq_true, true_implies, false_implies, imp_false, implies_true, if_true, if_false, reduceCtorEq, t1, t2, m2.1]
    exact ⟨by omega, by omega, by omega, by omega, m_length m2 hRm2 w (fun K hK xK => ⟨fun _ => ⟨by omega, fin _ _ _ (md.fin hJ w hK xK)⟩, fun z => absurd rfl z⟩)⟩
  · clear z
    simp only [hK_p, hL_p, hI_p, hR_p, wI_p, cpI_p, hN_p, forall_eq, true_and, and_true, ne_eq, not_true_eq_false, not_false_eq_true, true_implies, false_implies, imp_false, implies_true, if_true, if_false, reduceCtorEq, s1, c0, L1]
    refine ⟨by omega, by omega, by omega, by omega, by omega, by omega, q_figure c d hRc w (fun J r' hJ xJ o => ?_)⟩
    have md := l.mid xJ o
    obtain ⟨c2, m2, d2, hRm2, t1, t2⟩ := l.mid xJ o
    simp only [hK_p, hL_p, hI_p, hR_p, wI_p, cpI_p, hN_p, forall_eq, true_and, and_true, ne_eq, not_true_eq_false, not_false_eq_true, true_implies, false_implies, imp_false, implies_true, if_true, if_false, reduceCtorEq, t1, t2, m2.1]
    exact ⟨by omega, by omega, by omega, by omega, by omega, by omega, m_figure m2 hRm2 w (fun K hK xK => ⟨fun _ => ⟨by omega, fin _ _ _ (md.fin hJ w hK xK)⟩, fun z => absurd rfl z⟩)⟩
  · clear z
    simp only [hK_p, hL_p, hI_p, hR_p, wI_p, cpI_p, hN_p, forall_eq, true_and, and_true, ne_eq, not_true_eq_false, not_false_eq_true, true_implies, false_implies, imp_false, implies_true, if_true, if_false, reduceCtorEq, s1, c0, L1]
    refine ⟨by omega, by omega, by omega, by omega, by omega, by omega, q_often c d hRc w (fun J r' hJ xJ o => ?_)⟩
    have md := l.mid xJ o
    obtain ⟨c2, m2, d2, hRm2, t1, t2⟩ := l.mid xJ o
    simp only [hK_p, hL_p, hI_p, hR_p, wI_p, cpI_p, hN_p, forall_eq, true_and, and_true, ne_eq, not_true_eq_false, not_false_eq_true, true_implies, false_implies, imp_false, implies_true, if_true, if_false, reduceCtorEq, t1, t2, m2.1]
    exact ⟨by omega, by omega, by omega, by omega, by omega, by omega, m_often m2 hRm2 w (fun K hK xK => ⟨fun _ => ⟨by omega, fin _ _ _ (md.fin hJ w hK xK)⟩, fun z => absurd rfl z⟩)⟩
  · clear z
    simp only [hK_p, hL_p, hI_p, hR_p, wI_p, cpI_p, hN_p, forall_eq, true_and, and_true, ne_eq, not_true_eq_false, not_false_eq_true, true_implies, false_implies, imp_false, implies_true, if_true, if_false, reduceCtorEq, s1, c0, L1]
    refine ⟨by omega, by omega, by omega, by omega, q_first c d hRc w (fun J r' hJ xJ o => ?_)⟩
    have md := l.mid xJ o
    obtain ⟨c2, m2, d2, hRm2, t1, t2⟩ := l.mid xJ o
    simp only [hK_p, hL_p, hI_p, hR_p, wI_p, cpI_p, hN_p, forall_eq, true_and, and_true, ne_eq, not_true_eq_false, not_false_eq_true, true_implies, false_implies, imp_false, implies_true, if_true, if_false, reduceCtorEq, t1, t2, m2.1]
    exact ⟨by omega, by omega, by omega, by omega, m_first m2 hRm2 w (fun K hK xK => ⟨fun _ => ⟨by omega, fin _ _ _ (md.fin hJ w hK xK)⟩, fun z => absurd rfl z⟩)⟩
  · clear z
    simp only [hK_p, hL_p, hI_p, hR_p, wI_p, cpI_p, hN_p, forall_eq, true_and, and_true, ne_eq, not_true_eq_false, not_false_eq_true, true_implies, false_implies, imp_false, implies_true, if_true, if_false, reduceCtorEq, s1, c0, L1]
    refine ⟨by omega, by omega, q_again c d hRc w (fun J r' hJ xJ o => ?_)⟩
    have md := l.mid xJ o
    obtain ⟨c2, m2, d2, hRm2, t1, t2⟩ := l.mid xJ o
    simp only [hK_p, hL_p, hI_p, hR_p, wI_p, cpI_p, hN_p, forall_eq, true_and, and_true, ne_eq, not_true_eq_false, not_false_eq_true, true_implies, false_implies, imp_false, implies_true, if_true, if_false, reduceCtorEq, t1, t2, m2.1]
    exact ⟨by omega, by omega, m_again m2 hRm2 w (fun K hK xK => ⟨fun _ => ⟨by omega, fin _ _ _ (md.fin hJ w hK xK)⟩, fun z => absurd rfl z⟩)⟩
  · clear z
    simp only [hK_p, hL_p, hI_p, hR_p, wI_p, cpI_p, hN_p, forall_eq, true_and, and_true, ne_eq, not_true_eq_false, not_false_eq_true, true_implies, false_implies, imp_false, implies_true, if_true, if_false, reduceCtorEq, s1, c0, L1]
    refine ⟨by omega, by omega, q_apart c d hRc w (fun J r' hJ xJ o => ?_)⟩
    have md := l.mid xJ o
    obtain ⟨c2, m2, d2, hRm2, t1, t2⟩ := l.mid xJ o
    simp only [hK_p, hL_p, hI_p, hR_p, wI_p, cpI_p, hN_p, forall_eq, true_and, and_true, ne_eq, not_true_eq_false, not_false_eq_true, true_implies, false_implies, imp_false, implies_true, if_true, if_false, reduceCtorEq, t1, t2, m2.1]
    exact ⟨by omega, by omega, m_apart m2 hRm2 w (fun K hK xK => ⟨fun _ => ⟨by omega, fin _ _ _ (md.fin hJ w hK xK)⟩, fun z => absurd rfl z⟩)⟩
  · clear z
    simp only [hK_p, hL_p, hI_p, hR_p, wI_p, cpI_p, hN_p, forall_eq, true_and, and_true, ne_eq, not_true_eq_false, not_false_eq_true, true_implies, false_implies, imp_false, implies_true, if_true, if_false, reduceCtorEq, s1, c0, L1]
    refine ⟨by omega, by omega, q_back c d hRc w (fun J r' hJ xJ o => ?_)⟩
    have md := l.mid xJ o
    obtain ⟨c2, m2, d2, hRm2, t1, t2⟩ := l.mid xJ o
    simp only [hK_p, hL_p, hI_p, hR_p, wI_p, cpI_p, hN_p, forall_eq, true_and, and_true, ne_eq, not_true_eq_false, not_false_eq_true, true_implies, false_implies, imp_false, implies_true, if_true, if_false, reduceCtorEq, t1, t2, m2.1]
    exact ⟨by omega, by omega, m_back m2 hRm2 w (fun K hK xK => ⟨fun _ => ⟨by omega, fin _ _ _ (md.fin hJ w hK xK)⟩, fun z => absurd rfl z⟩)⟩
  · clear z
    simp only [hK_p, hL_p, hI_p, hR_p, wI_p, cpI_p, hN_p, forall_eq, true_and, and_true, ne_eq, not_true_eq_false, not_false_eq_true, true_implies, false_implies, imp_false, implies_true, if_true, if_false, reduceCtorEq, s1, c0, L1]
    refine ⟨by omega, by omega, q_in c hRc w ?_⟩
    simp only [hK_p, hL_p, hI_p, hR_p, wI_p, cpI_p, hN_p, forall_eq, true_and, and_true, ne_eq, not_true_eq_false, not_false_eq_true, true_implies, false_implies, imp_false, implies_true, if_true, if_false, reduceCtorEq, s1, c0, L1, m.1]
    exact ⟨by omega, by omega, m_in m hRm w ⟨fun _ => ⟨by omega, fin _ _ _ l⟩, fun z => absurd rfl z⟩⟩
  · clear z
    simp only [hK_p, hL_p, hI_p, hR_p, wI_p, cpI_p, hN_p, forall_eq, true_and, and_true, ne_eq, not_true_eq_false, not_false_eq_true, true_implies, false_implies, imp_false, implies_true, if_true, if_false, reduceCtorEq, s1, c0, L1]
    refine ⟨by omega, by omega, q_changes c hRc w (fun J hJ xJ => ?_)⟩
    have md := l.mid xJ (Op.refl r)
    obtain ⟨c2, m2, d2, hRm2, t1, t2⟩ := l.mid xJ (Op.refl r)
    simp only [hK_p, hL_p, hI_p, hR_p, wI_p, cpI_p, hN_p, forall_eq, true_and, and_true, ne_eq, not_true_eq_false, not_false_eq_true, true_implies, false_implies, imp_false, implies_true, if_true, if_false, reduceCtorEq, t1, t2, m2.1]
    exact ⟨by omega, by omega, m_changes m2 hRm2 w (fun K hK xK => ⟨fun _ => ⟨by omega, fin _ _ _ (md.fin hJ w hK xK)⟩, fun z => absurd rfl z⟩)⟩
  · clear z
    simp only [hK_p, hL_p, hI_p, hR_p, wI_p, cpI_p, hN_p, forall_eq, true_and, and_true, ne_eq, not_true_eq_false, not_false_eq_true, true_implies, false_implies, imp_false, implies_true, if_true, if_false, reduceCtorEq, s1, c0, L1]
    refine ⟨by omega, by omega, by omega, by omega, q_noSlip (S := S) ?_⟩
    simp only [hK_p, hL_p, hI_p, hR_p, wI_p, cpI_p, hN_p, forall_eq, true_and, and_true, ne_eq, not_true_eq_false, not_false_eq_true, true_implies, false_implies, imp_false, implies_true, if_true, if_false, reduceCtorEq, s1, c0, L1, m.1]
    exact ⟨by omega, by omega, by omega, by omega, m_noSlip ⟨fun _ => ⟨by omega, fin _ _ _ l⟩, fun z => absurd rfl z⟩⟩
  · clear z
    simp only [hK_p, hL_p, hI_p, hR_p, wI_p, cpI_p, hN_p, forall_eq, true_and, and_true, ne_eq, not_true_eq_false, not_false_eq_true, true_implies, false_implies, imp_false, implies_true, if_true, if_false, reduceCtorEq, s1]
    have hear : ∀ b : Int, (b = 0 ∨ b = 1) → b = (if sc (x3 + 3) = 0 then 0 else 1) → J_L_law_870 P 2 363 x3 b (sc (x3 + 2)) (sc (x3 + 1)) 2 (I, r) Q := by
      intro b hb eb
      unfold J_L_law_870
      refine ⟨c0, q_hear c hRc w hb (fun J hJ xJ => ?_)⟩
      have md := l.mid xJ (Op.refl r)
      obtain ⟨c2, m2, d2, hRm2, t1, t2⟩ := md
      simp only [hK_p, hL_p, hI_p, hR_p, wI_p, cpI_p, hN_p, forall_eq, true_and, and_true, ne_eq, not_true_eq_false, not_false_eq_true, true_implies, false_implies, imp_false, implies_true, if_true, if_false, reduceCtorEq, t1, t2]
      have e2 : J_L_law_897 P 2 363 x3 b (sc (x3 + 2)) (sc (x3 + 1)) 363 (oHear S (sc (x3 + 1)) (sc (x3 + 2)) b).1 (J, r) Q := by
        unfold J_L_law_897
        exact ⟨m2.1, m_hear m2 hRm2 w hb (fun K hK xK => ⟨fun _ => ⟨by omega, fin _ _ _ ((l.mid xJ (Op.refl r)).fin hJ (wf_hear w hb) hK xK)⟩, fun z => absurd rfl z⟩)⟩
      refine ⟨by omega, by omega, by omega, by omega, by omega, by omega, fun z => ?_, fun z => ?_⟩
      · rw [if_pos z] at eb; rw [eb] at e2; rw [eb]; exact e2
      · rw [if_neg z] at eb; rw [eb] at e2; rw [eb]; exact e2
    exact ⟨by omega, by omega, by omega, by omega, by omega, by omega, fun z => hear 0 (Or.inl rfl) (by rw [if_pos z]), fun z => hear 1 (Or.inr rfl) (by rw [if_neg z])⟩
  · clear z
    simp only [hK_p, hL_p, hI_p, hR_p, wI_p, cpI_p, hN_p, forall_eq, true_and, and_true, ne_eq, not_true_eq_false, not_false_eq_true, true_implies, false_implies, imp_false, implies_true, if_true, if_false, reduceCtorEq, s1, c0, L1]
    refine q_couldBe c hRc w (fun J hJ xJ => ?_)
    have md := l.mid xJ (Op.refl r)
    obtain ⟨c2, m2, d2, hRm2, t1, t2⟩ := l.mid xJ (Op.refl r)
    simp only [hK_p, hL_p, hI_p, hR_p, wI_p, cpI_p, hN_p, forall_eq, true_and, and_true, ne_eq, not_true_eq_false, not_false_eq_true, true_implies, false_implies, imp_false, implies_true, if_true, if_false, reduceCtorEq, t1, t2, m2.1]
    exact m_couldBe m2 hRm2 w (fun K hK xK => ⟨fun _ => ⟨by omega, fin _ _ _ (md.fin hJ w hK (xK.mono (fun a q z => by omega)))⟩, fun z => absurd rfl z⟩)
  · clear z
    simp only [hK_p, hL_p, hI_p, hR_p, wI_p, cpI_p, hN_p, forall_eq, true_and, and_true, ne_eq, not_true_eq_false, not_false_eq_true, true_implies, false_implies, imp_false, implies_true, if_true, if_false, reduceCtorEq, s1, c0, L1]
    refine q_ask c hRc w (fun J hJ xJ => ?_)
    have md := l.mid xJ (Op.refl r)
    obtain ⟨c2, m2, d2, hRm2, t1, t2⟩ := l.mid xJ (Op.refl r)
    simp only [hK_p, hL_p, hI_p, hR_p, wI_p, cpI_p, hN_p, forall_eq, true_and, and_true, ne_eq, not_true_eq_false, not_false_eq_true, true_implies, false_implies, imp_false, implies_true, if_true, if_false, reduceCtorEq, t1, t2, m2.1]
    exact m_ask m2 hRm2 w (fun K hK xK => ⟨fun _ => ⟨by omega, fin _ _ _ (md.fin hJ w hK xK)⟩, fun z => absurd rfl z⟩)
  · clear z
    simp only [hK_p, hL_p, hI_p, hR_p, wI_p, cpI_p, hN_p, forall_eq, true_and, and_true, ne_eq, not_true_eq_false, not_false_eq_true, true_implies, false_implies, imp_false, implies_true, if_true, if_false, reduceCtorEq, s1, c0, L1]
    refine ⟨by omega, by omega, by omega, by omega, q_write c hRc w (fun J hJ xJ => ?_)⟩
    have md := l.mid xJ (Op.refl r)
    obtain ⟨c2, m2, d2, hRm2, t1, t2⟩ := l.mid xJ (Op.refl r)
    simp only [hK_p, hL_p, hI_p, hR_p, wI_p, cpI_p, hN_p, forall_eq, true_and, and_true, ne_eq, not_true_eq_false, not_false_eq_true, true_implies, false_implies, imp_false, implies_true, if_true, if_false, reduceCtorEq, t1, t2, m2.1]
    exact ⟨by omega, by omega, by omega, by omega, m_write m2 hRm2 w (fun K hK xK => ⟨fun _ => ⟨by omega, fin _ _ _ (md.fin hJ (wf_write w) hK xK)⟩, fun z => absurd rfl z⟩)⟩
  · clear z
    simp only [hK_p, hL_p, hI_p, hR_p, wI_p, cpI_p, hN_p, forall_eq, true_and, and_true, ne_eq, not_true_eq_false, not_false_eq_true, true_implies, false_implies, imp_false, implies_true, if_true, if_false, reduceCtorEq, s1, c0, L1]
    refine q_judge c hRc w ?_
    simp only [hK_p, hL_p, hI_p, hR_p, wI_p, cpI_p, hN_p, forall_eq, true_and, and_true, ne_eq, not_true_eq_false, not_false_eq_true, true_implies, false_implies, imp_false, implies_true, if_true, if_false, reduceCtorEq, s1, c0, L1, m.1]
    exact m_judge m hRm w ⟨fun _ => ⟨by omega, fin _ _ _ l⟩, fun z => absurd rfl z⟩
  · clear z
    simp only [hK_p, hL_p, hI_p, hR_p, wI_p, cpI_p, hN_p, forall_eq, true_and, and_true, ne_eq, not_true_eq_false, not_false_eq_true, true_implies, false_implies, imp_false, implies_true, if_true, if_false, reduceCtorEq, s1, c0, L1]
    refine q_tear c hRc w (fun J hJ xJ => ?_)
    have md := l.mid xJ (Op.refl r)
    obtain ⟨c2, m2, d2, hRm2, t1, t2⟩ := l.mid xJ (Op.refl r)
    simp only [hK_p, hL_p, hI_p, hR_p, wI_p, cpI_p, hN_p, forall_eq, true_and, and_true, ne_eq, not_true_eq_false, not_false_eq_true, true_implies, false_implies, imp_false, implies_true, if_true, if_false, reduceCtorEq, t1, t2, m2.1]
    exact m_tear m2 hRm2 w (fun K hK xK => ⟨fun _ => ⟨by omega, fin _ _ _ (md.fin hJ (wf_tear w) hK xK)⟩, fun z => absurd rfl z⟩)
  · clear z
    simp only [hK_p, hL_p, hI_p, hR_p, wI_p, cpI_p, hN_p, forall_eq, true_and, and_true, ne_eq, not_true_eq_false, not_false_eq_true, true_implies, false_implies, imp_false, implies_true, if_true, if_false, reduceCtorEq, s1, c0, L1]
    refine ⟨by omega, by omega, q_seed c hRc w (fun J hJ xJ => ?_)⟩
    have md := l.mid xJ (Op.refl r)
    obtain ⟨c2, m2, d2, hRm2, t1, t2⟩ := l.mid xJ (Op.refl r)
    simp only [hK_p, hL_p, hI_p, hR_p, wI_p, cpI_p, hN_p, forall_eq, true_and, and_true, ne_eq, not_true_eq_false, not_false_eq_true, true_implies, false_implies, imp_false, implies_true, if_true, if_false, reduceCtorEq, t1, t2, m2.1]
    exact ⟨by omega, by omega, m_seed m2 hRm2 w (fun K hK xK => ⟨fun _ => ⟨by omega, fin _ _ _ (md.fin hJ (wf_seed w (sb _).2) hK xK)⟩, fun z => absurd rfl z⟩)⟩
  · clear z
    simp only [hK_p, hL_p, hI_p, hR_p, wI_p, cpI_p, hN_p, forall_eq, true_and, and_true, ne_eq, not_true_eq_false, not_false_eq_true, true_implies, false_implies, imp_false, implies_true, if_true, if_false, reduceCtorEq, s1, c0, L1]
    refine ⟨by omega, by omega, q_keep c hRc w (fun J hJ xJ => ?_)⟩
    have md := l.mid xJ (Op.refl r)
    obtain ⟨c2, m2, d2, hRm2, t1, t2⟩ := l.mid xJ (Op.refl r)
    simp only [hK_p, hL_p, hI_p, hR_p, wI_p, cpI_p, hN_p, forall_eq, true_and, and_true, ne_eq, not_true_eq_false, not_false_eq_true, true_implies, false_implies, imp_false, implies_true, if_true, if_false, reduceCtorEq, t1, t2, m2.1]
    exact ⟨by omega, by omega, m_keep m2 hRm2 w (fun K hK xK => ⟨fun _ => ⟨by omega, fin _ _ _ (md.fin hJ (wf_keep w) hK xK)⟩, fun z => absurd rfl z⟩)⟩
  · clear z
    simp only [hK_p, hL_p, hI_p, hR_p, wI_p, cpI_p, hN_p, forall_eq, true_and, and_true, ne_eq, not_true_eq_false, not_false_eq_true, true_implies, false_implies, imp_false, implies_true, if_true, if_false, reduceCtorEq, s1, c0, L1]
    refine ⟨by omega, by omega, q_goBack c hRc w (fun J hJ xJ => ?_)⟩
    have md := l.mid xJ (Op.refl r)
    obtain ⟨c2, m2, d2, hRm2, t1, t2⟩ := l.mid xJ (Op.refl r)
    simp only [hK_p, hL_p, hI_p, hR_p, wI_p, cpI_p, hN_p, forall_eq, true_and, and_true, ne_eq, not_true_eq_false, not_false_eq_true, true_implies, false_implies, imp_false, implies_true, if_true, if_false, reduceCtorEq, t1, t2, m2.1]
    exact ⟨by omega, by omega, m_goBack m2 hRm2 w (fun K hK xK => ⟨fun _ => ⟨by omega, fin _ _ _ (md.fin hJ (wf_goBack w) hK xK)⟩, fun z => absurd rfl z⟩)⟩
theorem law_ok {sc : Int → Int} {n : Int} {I : Im} {r : Rs} {Q : Int → Hp → Prop} (hn : 0 ≤ n ∧ n ≤ 2048) (sb : ∀ k, -2147483648 ≤ sc k ∧ sc k ≤ 2147483647) (s1 : ∀ k, I 1 k = sc k) (N : rN r = 2) (Sz : rS r = 0) (L : rL r 1 = n) (k : ∀ S' I' r', Lw sc n S' I' r' → Q 1 (I', r')) : V_L_law (I, r) Q := by
  unfold V_L_law
  refine fun n1 e1 h2 e2 => n_ra N (e1.trans N) e2 (fun J r2 p x N2 S2 i1 i2 => ?_)
  obtain rfl : n1 = 2 := e1.trans N
  refine fun n4 e4 h5 e5 => n_md N2 (e4.trans N2) e5 (fun K r3 m y N3 S3 j1 j2 => ?_)
  obtain rfl : n4 = 363 := e4.trans N2
  have p3 : sC0 r3 := p.fr y (by omega)
  refine law_loop (S := St0) hn sb ⟨Cs_0 p3, m, Dyn_0 p3 N3 (by omega), Rc_0 (fun b q h1 h2 => by rw [j1 b q (by omega)]; exact i2 b q h1 h2), Rm_0 j2, wf_0, fun q => by rw [j1 1 q (by omega), i1 1 q (by omega), s1 q], by rw [y.2.2 1 (by omega), x.2.2 1 (by omega), L]⟩ k
theorem Dyn.room {r : Rs} (h : Dyn r) : rN r ≤ 100000 ∧ rS r ≤ 300000 := by
  obtain ⟨p, o, cp, co, c3, Lp, Lo, L3, h⟩ := h
  obtain ⟨h1, h2, h4, h5, h6, h7, h10, h13, h14, h15, h16, h17, h18⟩ := h
  have a1 : phi Lp ≤ 46080 := by unfold phi; split <;> omega
  have a2 : phi Lo ≤ 46080 := by unfold phi; split <;> omega
  have a3 : psi L3 ≤ 240 := by unfold psi; split <;> omega
  omega
