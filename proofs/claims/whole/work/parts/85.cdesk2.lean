/-! COMPONENT, part 15: the desk is laid -/
abbrev aPr : Nat → Int → Prop := fun a k => (5 ≤ a ∧ a ≤ 22) ∨ (a = 3 ∧ (k = 4 ∨ k = 5))
theorem c_noteFault {I : Im} {r : Rs} {n p : Int} {Q : Hp → Prop} (k3 : rK r 3 = 1) (k0 : n = 0 → Q (I, r)) (k1 : n ≠ 0 → Q (upI (upI I 3 4 n) 3 5 p, r)) : C_X1_noteFault 3 n p (I, r) Q := by
  apply G_X1_noteFault
  unfold V_X1_noteFault
  simp only [hK_p, hL_p, hI_p, hR_p, wI_p, cpI_p, hN_p, forall_eq, true_and, and_true, ne_eq, not_true_eq_false, not_false_eq_true, true_implies, false_implies, imp_false, implies_true, if_true, if_false, reduceCtorEq, k3]
  exact ⟨k0, k1⟩
theorem c_parse {S : St} {I : Im} {r : Rs} {Q : Hp → Prop} (c : Cs r) (hR : Rc S I) (w : WF S)
    (k0 : ∀ I' r' row ws, pzR S = (0, -1, row, ws) → I' 3 4 = 0 → I' 3 5 = -1 → fg I' 5 6 row → cWl I' 7 ws → okWl ws → row.length ≤ 60 → Ex aPr I I' → Op r r' → Q (I', r'))
    (k1 : ∀ I' r', (pzR S).1 ≠ 0 → I' 3 4 = (pzR S).1 → I' 3 5 = (pzR S).2.1 → Ex aPr I I' → Op r r' → Q (I', r')) : C_X1_parse 3 (I, r) Q := by
  obtain ⟨d1, ⟨d5, d6, d7⟩, d2, d3, d4⟩ := c.2.1
  have htx : (sTx S).length ≤ 240 := w.1.1
  have b7 := c.2.2.1.1
  apply G_X1_parse
  unfold V_X1_parse
  simp only [hK_p, hL_p, hI_p, hR_p, wI_p, cpI_p, hN_p, forall_eq, true_and, and_true, ne_eq, not_true_eq_false, not_false_eq_true, true_implies, false_implies, imp_false, implies_true, if_true, if_false, reduceCtorEq, wR_p, upR_K, d1, d2, d3, d4.1, b7]
  refine Lp_X1_parse_33_ind (fun x h => ∃ (u : Nat) (J : Im) (r' : Rs), x = u ∧ u ≤ (sTx S).length ∧ h = (J, r') ∧ Op r r' ∧ Ex aPr I J ∧ ((J 3 4 = 0 ∧ J 3 5 = -1 ∧ ∃ m cur row ws, pI r' J m cur row ws ∧ pzR S = pzA (sTx S) m cur row ws u) ∨ ((pzR S).1 ≠ 0 ∧ J 3 4 = (pzR S).1 ∧ J 3 5 = (pzR S).2.1))) (fun x _ => (sTx S).length - x.toNat) ?_ _ _ ⟨0, _, _, rfl, Nat.zero_le _, rfl, Op.opn r 0, fun a q hq => ?_, Or.inl ⟨?_, ?_, 0, [], [], [], ⟨⟨by simp, ⟨by simp, fun x hx => by cases hx⟩, by simp, figs.nil⟩, Or.inl ⟨rfl, upR_self _ _ _ _, ⟨?_, Seg.nil _ _⟩, ?_, fun w x hx => by simp at hx⟩⟩, rfl⟩⟩
  · intro P x h hI ih
    obtain ⟨u, J, r', rfl, u1, rfl, u2, u3, u4⟩ := hI
    have c' := c.of u2.1
    obtain ⟨e1, ⟨e5, e6, e7⟩, _⟩ := c'.2.1
    have t3 : J 3 3 = (sTx S).length := by rw [u3 _ _ (by omega)]; exact hR.1.1
    have t4 : J 4 = I 4 := u3.row 4 (fun q => by omega)
    unfold BLp_X1_parse_33 J_X1_parse_69
    simp only [hK_p, hL_p, hI_p, hR_p, wI_p, cpI_p, hN_p, forall_eq, true_and, and_true, ne_eq, not_true_eq_false, not_false_eq_true, true_implies, false_implies, imp_false, implies_true, if_true, if_false, reduceCtorEq, e1, e5, e6, e7, t3]
    rcases u4 with ⟨v1, v2, m, cur, row, ws, v3, v4⟩ | ⟨v1, v2, v3⟩
    · rw [v1]
      have stop : u = (sTx S).length → ((¬ (0 : Int) = 0 → Q (J, r')) ∧ ((0 : Int) = 0 → ((rR r' 3 6 = 0 → Q (J, r')) ∧ (¬ rR r' 3 6 = 0 → C_X1_noteFault 3 1 ((sTx S).length : Int) (J, r') (fun h1 => Q h1))))) := by
        intro hu
        subst hu
        rw [pz_end] at v4
        refine ⟨fun z => absurd rfl z, fun _ => ?_⟩
        obtain ⟨⟨q1, q2, q3, q4⟩, hh⟩ := v3
        rcases hh with ⟨hm, ho, hr, hw⟩ | ⟨hm, ho, hr, hw⟩ | ⟨hm, hl, ho, hr, hw3, hws, hc⟩
        · rw [if_pos hm] at v4
          exact ⟨fun _ => k0 J r' row ws v4 v1 v2 hr hw q2 q1 u3 u2, fun z => absurd ho z⟩
        · rw [if_neg (by omega)] at v4
          refine ⟨fun z => absurd z (by omega), fun _ => c_noteFault e1 (fun z => absurd z (by decide)) (fun _ => k1 _ r' (by rw [v4]; show (1 : Int) ≠ 0; decide) (by rw [upI_ne (by omega), upI_self, v4]) (by rw [upI_self, v4]) (fun a q hq => by rw [upI_ne (by omega), upI_ne (by omega), u3 a q hq]) u2)⟩
        · rw [if_neg (by omega)] at v4
          refine ⟨fun z => absurd z (by omega), fun _ => c_noteFault e1 (fun z => absurd z (by decide)) (fun _ => k1 _ r' (by rw [v4]; show (1 : Int) ≠ 0; decide) (by rw [upI_ne (by omega), upI_self, v4]) (by rw [upI_self, v4]) (fun a q hq => by rw [upI_ne (by omega), upI_ne (by omega), u3 a q hq]) u2)⟩
      refine ⟨fun z => stop (by omega), fun z => ⟨fun z2 => absurd rfl z2, fun _ => ⟨by omega, ?_⟩⟩⟩
      have hu : u < (sTx S).length := by omega
      have el : J 4 u = (sTx S)[u] := by rw [t4]; have := hR.1.2.get hu; rw [Int.zero_add] at this; exact this
      have v4 : pzR S = pz m cur row ws u ((sTx S)[u] :: (sTx S).drop (u + 1)) := by
        rw [v4]; show pz m cur row ws u ((sTx S).drop u) = _; rw [drop_cons hu]
      rw [el]
      refine c_takeLetter c' v3 (fun f hf pf K r'' xK oK => ?_) (fun m' cur' row' ws' pf K r'' hK xK oK => ?_)
      · rw [pf] at v4
        have e1' : rK r'' 3 = 1 := (oK.1.2.1 3 (by omega)).trans e1
        refine ⟨by simp only [hK_p, e1'], c_noteFault e1' (fun z => absurd z (by omega)) (fun _ => ⟨by omega, ih _ _ ⟨u + 1, _, r'', by omega, by omega, rfl, u2.trans oK, fun a q hq => by rw [upI_ne (by omega), upI_ne (by omega), xK a q (by omega), u3 a q hq], Or.inr ⟨by rw [v4]; show f ≠ 0; omega, by rw [upI_ne (by omega), upI_self, v4], by rw [upI_self, v4]⟩⟩ (by omega)⟩)⟩
      · rw [pf] at v4
        have e1' : rK r'' 3 = 1 := (oK.1.2.1 3 (by omega)).trans e1
        refine ⟨by simp only [hK_p, e1'], c_noteFault e1' (fun _ => ⟨by omega, ih _ _ ⟨u + 1, K, r'', by omega, by omega, rfl, u2.trans oK, fun a q hq => by rw [xK a q (by omega), u3 a q hq], Or.inl ⟨by rw [xK _ _ (by omega), v1], by rw [xK _ _ (by omega), v2], m', cur', row', ws', hK, v4⟩⟩ (by omega)⟩) (fun z => absurd rfl z)⟩
    · rw [v2]
      have fin := k1 J r' v1 v2 v3 u3 u2
      exact ⟨fun _ => ⟨fun _ => fin, fun z => absurd z v1⟩, fun _ => ⟨fun _ => ⟨fun _ => fin, fun z => absurd z v1⟩, fun z => absurd z v1⟩⟩
  · rw [upI_ne (by omega), upI_ne (by omega), upI_ne (by omega), upI_ne (by omega)]
  · rw [upI_ne (by omega), upI_self]
  · rw [upI_self]
  · rw [upI_ne (by omega), upI_ne (by omega), upI_ne (by omega), upI_self]; rfl
  · rw [upI_ne (by omega), upI_ne (by omega), upI_self]; rfl
theorem c_wcopy {I : Im} {r : Rs} {ws : List (List Int)} {Q : Hp → Prop} (s : sWL r 23) (s' : sWL r 7) (h : cWl I 7 ws) (ok : okWl ws) (k : ∀ I', cWl I' 23 ws → Ex (fun x q => (x = 23 ∧ q = 3) ∨ (27 ≤ x ∧ x < 39)) I I' → Q (I', r)) : C_X10_copyFrom 23 7 (I, r) Q := by
  obtain ⟨s1, ⟨s2, s3, s4⟩, _, _, s5⟩ := s
  obtain ⟨t1, ⟨t2, t3, t4⟩, _, _, t5⟩ := s'
  have hl := ok.1
  apply G_X10_copyFrom
  unfold V_X10_copyFrom
  simp only [hK_p, hL_p, hI_p, hR_p, wI_p, cpI_p, hN_p, forall_eq, true_and, and_true, ne_eq, not_true_eq_false, not_false_eq_true, true_implies, false_implies, imp_false, implies_true, if_true, if_false, reduceCtorEq, s1, t1, h.1]
  refine Lp_X10_copyFrom_10_ind (fun x h => ∃ (u : Nat) (J : Im), x = u ∧ u ≤ ws.length ∧ h = (J, r) ∧ J 23 3 = ws.length ∧ Ex (fun x q => (x = 23 ∧ q = 3) ∨ (27 ≤ x ∧ x < 39)) I J ∧ ∀ (w : Nat) (x : List Int), w < u → ws[w]? = some x → fg J (23 + 4 + 2 * w) (23 + 5 + 2 * w) x) (fun x _ => ws.length - x.toNat) ?_ _ _ ⟨0, _, rfl, Nat.zero_le _, rfl, upI_self _ _ _ _, fun x q hq => upI_ne (by omega), fun w x hw => absurd hw (by omega)⟩
  intro P x hh hI ih
  obtain ⟨u, J, rfl, u1, rfl, u2, u3, u4⟩ := hI
  unfold BLp_X10_copyFrom_10
  simp only [hK_p, hL_p, hI_p, hR_p, wI_p, cpI_p, hN_p, forall_eq, true_and, and_true, ne_eq, not_true_eq_false, not_false_eq_true, true_implies, false_implies, imp_false, implies_true, if_true, if_false, reduceCtorEq, s1, s2, s3, s4, t1, t2, t3, t4, u2]
  refine ⟨fun z => k J ⟨u2, fun w x hx => u4 w x (by have := (List.getElem?_eq_some_iff.mp hx).1; omega) hx⟩ u3, fun z => ?_⟩
  have hu : u < ws.length := by omega
  obtain ⟨a1, a2⟩ := s5 u (by omega)
  obtain ⟨b1, b2⟩ := t5 u (by omega)
  have hx : ws[u]? = some ws[u] := List.getElem?_eq_getElem hu
  obtain ⟨o1, o2, o3⟩ := ok.2 _ (List.getElem_mem hu)
  have hg := (h.2 u _ hx).ex u3 (by omega) (fun q => by omega)
  simp only [a1, b1, a2.1]
  refine ⟨by omega, by omega, trivial, c_copyFrom a2 b2 (by omega) hg (by omega) (by omega) (fun K hK xK => ⟨by omega, ih _ _ ⟨u + 1, K, by omega, by omega, rfl, by rw [xK _ _ (by omega), u2], u3.trans xK (fun _ _ z => z) (fun x q z => by omega), fun w y hw hy => ?_⟩ (by omega)⟩)⟩
  rcases (show w = u ∨ w < u by omega) with z1 | z1
  · subst z1
    rw [hx] at hy
    cases hy
    exact hK
  · exact (u4 w y z1 hy).ex xK (by omega) (fun q => by omega)
theorem c_clearIm {I : Im} {r : Rs} {Q : Hp → Prop} (c : Cs r) (k : ∀ I', I' 199 0 = 0 → I' 199 1 = 0 → Ex (fun x _ => x = 199) I I' → Q (I', r)) : C_X4_clear 196 (I, r) Q := by
  obtain ⟨i1, _, _, ⟨i8, i9, i10⟩, _⟩ := c.2.2.2.2.2.2.1
  apply G_X4_clear
  unfold V_X4_clear
  refine Lp_X4_clear_2_ind (fun x h => ∃ (u : Nat) (J : Im), x = u ∧ u ≤ 2 ∧ h = (J, r) ∧ Ex (fun x _ => x = 199) I J ∧ ∀ j : Nat, j < u → J 199 j = 0) (fun x _ => 2 - x.toNat) ?_ _ _ ⟨0, I, rfl, by omega, rfl, Ex.refl I, fun j hj => absurd hj (by omega)⟩
  intro P x h hI ih
  obtain ⟨u, J, rfl, u1, rfl, u2, u3⟩ := hI
  unfold BLp_X4_clear_2
  simp only [hK_p, hL_p, hI_p, hR_p, wI_p, cpI_p, hN_p, forall_eq, true_and, and_true, ne_eq, not_true_eq_false, not_false_eq_true, true_implies, false_implies, imp_false, implies_true, if_true, if_false, reduceCtorEq, i1, i8, i9, i10]
  refine ⟨fun z => k J (u3 0 (by omega)) (u3 1 (by omega)) u2, fun z => ⟨⟨by omega, by omega, Or.inl trivial⟩, by omega, ih _ _ ⟨u + 1, _, by omega, by omega, rfl, fun a q hq => by rw [upI_ne (fun zz => hq zz.1), u2 a q hq], fun j hj => ?_⟩ (by omega)⟩⟩
  rcases (show j = u ∨ j < u by omega) with z1 | z1
  · subst z1; exact upI_self _ _ _ _
  · rw [upI_ne (by omega)]; exact u3 j z1
theorem q_desk {S : St} {I : Im} {r : Rs} {Q : Int → Hp → Prop} (c : Cs r) (hR : Rc S I) (w : WF S) (k : ∀ I' r', Rc (oDesk S).2 I' → Ex aC I I' → Op r r' → Q (oDesk S).1 (I', r')) : C_X11_desk 2 (I, r) Q := by
  have ca := c.1
  unfold sRa at ca
  have okw := w.2.2.2.1
  unfold oDesk at k
  apply G_X11_desk
  unfold V_X11_desk
  simp only [hK_p, hL_p, hI_p, hR_p, wI_p, cpI_p, hN_p, forall_eq, true_and, and_true, ne_eq, not_true_eq_false, not_false_eq_true, true_implies, false_implies, imp_false, implies_true, if_true, if_false, reduceCtorEq, ca, c.2.1.1]
  refine c_parse c hR w (fun J r' row ws pz0 j4 j5 hr hw okws hl xJ oJ => ?_) (fun J r' pn j4 j5 xJ oJ => ?_)
  · rw [pz0, if_pos rfl] at k
    dsimp only at k
    have c' := c.of oJ.1
    have cb := c'.1
    unfold sRa at cb
    obtain ⟨d1, _, d2, d3, d4⟩ := c'.2.1
    obtain ⟨s1, s2, s3, _⟩ := c'.2.2.2.2.1
    have f4 : upI J 3 3 0 3 4 = 0 := by rw [upI_ne (by omega), j4]
    simp only [hK_p, hL_p, hI_p, hR_p, wI_p, cpI_p, hN_p, forall_eq, true_and, and_true, ne_eq, not_true_eq_false, not_false_eq_true, true_implies, false_implies, imp_false, implies_true, if_true, if_false, reduceCtorEq, cb, d1, f4]
    apply G_X11_layDesk
    unfold V_X11_layDesk
    have f5 : upI J 3 3 0 5 1 = row.length := by rw [upI_ne (by omega), hr.1]
    simp only [hK_p, hL_p, hI_p, hR_p, wI_p, cpI_p, hN_p, forall_eq, true_and, and_true, ne_eq, not_true_eq_false, not_false_eq_true, true_implies, false_implies, imp_false, implies_true, if_true, if_false, reduceCtorEq, cb, d1, d2, d4.1, f5]
    have j19 : ∀ (y : Int) (QQ : Hp → Prop), y = (if row = [] then 0 else 1) → (∀ F, Rc (desked S row ws) F → Ex aC I F → fg F 40 41 row → QQ (F, r')) → J_X11_layDesk_19 2 y 2 (upI J 3 3 0, r') QQ := by
      intro y QQ hy kk
      have hy2 : y = 0 ∨ y = 1 := by rw [hy]; split <;> omega
      unfold J_X11_layDesk_19
      simp only [hK_p, hL_p, hI_p, hR_p, wI_p, cpI_p, hN_p, forall_eq, true_and, and_true, ne_eq, not_true_eq_false, not_false_eq_true, true_implies, false_implies, imp_false, implies_true, if_true, if_false, reduceCtorEq, cb, d1, d2, s1]
      refine ⟨hy2, ?_⟩
      generalize hA : upI (upI J 3 3 0) 2 10 y = A
      have ao : ∀ a q, ¬ ((a = 3 ∧ q = 3) ∨ (a = 2 ∧ q = 10)) → A a q = J a q := fun a q hq => by rw [← hA, upI_ne (by omega), upI_ne (by omega)]
      have A39 : cSt A 39 (sNw S) := hR.2.2.2.2.1.kept (fun x x0 x1 => funext fun q => by rw [ao x q (by omega), xJ x q (by omega)])
      refine c_beginSt c'.2.2.2.2.1 d4 (by omega) A39 (hr.kept (ao _ _ (by omega)) (funext fun q => ao _ _ (by omega))) hl (by omega) (fun B hB xB => ?_)
      simp only [hK_p, hL_p, hI_p, hR_p, wI_p, cpI_p, hN_p, forall_eq, true_and, and_true, ne_eq, not_true_eq_false, not_false_eq_true, true_implies, false_implies, imp_false, implies_true, if_true, if_false, reduceCtorEq, cb, d1, d3, c'.2.2.2.1.1]
      refine c_wcopy c'.2.2.2.1 c'.2.2.1 (hw.kept okws.1 ?_ (fun b b0 b1 => funext fun q => ?_)) okws (fun C hC xC => ?_)
      · rw [xB _ _ (by omega), ao _ _ (by omega)]
      · rw [xB _ _ (by omega), ao _ _ (by omega)]
      simp only [hK_p, hL_p, hI_p, hR_p, wI_p, cpI_p, hN_p, forall_eq, true_and, and_true, ne_eq, not_true_eq_false, not_false_eq_true, true_implies, false_implies, imp_false, implies_true, if_true, if_false, reduceCtorEq, cb, c'.2.2.2.2.2.2.2.1.1, c'.2.2.2.2.2.2.2.2.1.1, c'.2.2.2.2.2.2.1.1]
      refine c_clearIm c' (fun D g0 g1 xD => ?_)
      simp only [hK_p, hL_p, hI_p, hR_p, wI_p, cpI_p, hN_p, forall_eq, true_and, and_true, ne_eq, not_true_eq_false, not_false_eq_true, true_implies, false_implies, imp_false, implies_true, if_true, if_false, reduceCtorEq, cb, c'.2.2.2.2.2.1.1]
      apply G_X6_clear
      unfold V_X6_clear
      generalize hF : upI D 44 2 0 = F
      have fo : ∀ a q, ¬ ((a = 44 ∧ q = 2) ∨ a = 199 ∨ (a = 227 ∧ q = 2) ∨ (a = 210 ∧ q = 4) ∨ (a = 23 ∧ q = 3) ∨ (27 ≤ a ∧ a < 44)) → F a q = A a q := fun a q hq => by
        rw [← hF, upI_ne (by omega), xD a q (by omega), upI_ne (by omega), upI_ne (by omega), xC a q (by omega), xB a q (by omega)]
      have fI : ∀ a q, ¬ ((a = 44 ∧ q = 2) ∨ a = 199 ∨ (a = 227 ∧ q = 2) ∨ (a = 210 ∧ q = 4) ∨ (a = 23 ∧ q = 3) ∨ (27 ≤ a ∧ a < 44) ∨ (a = 3 ∧ (q = 3 ∨ q = 4 ∨ q = 5)) ∨ (a = 2 ∧ q = 10) ∨ (5 ≤ a ∧ a ≤ 22)) → F a q = I a q := fun a q hq => by rw [fo a q (by omega), ao a q (by omega), xJ a q (by omega)]
      have f1 : fg F 40 41 row := hB.1.kept (by rw [← hF, upI_ne (by omega), xD _ _ (by omega), upI_ne (by omega), upI_ne (by omega), xC _ _ (by omega)]) (funext fun q => by rw [← hF, upI_ne (by omega), xD _ _ (by omega), upI_ne (by omega), upI_ne (by omega), xC _ _ (by omega)])
      simp only [hK_p, hL_p, hI_p, hR_p, wI_p, cpI_p, hN_p, forall_eq, true_and, and_true, ne_eq, not_true_eq_false, not_false_eq_true, true_implies, false_implies, imp_false, implies_true, if_true, if_false, reduceCtorEq, c'.2.2.2.2.2.1.1, hF]
      refine kk F ⟨⟨?_, Seg.nil _ _⟩, ?_, ?_, ?_, ?_, ?_, fun i hi => ⟨fun _ => ?_, (fun q hq => by cases hq)⟩, ?_, ⟨?_, Seg.nil _ _, Seg.nil _ _, Seg.nil _ _⟩, ⟨?_, Seg.nil _ _, Seg.nil _ _⟩⟩ (fun a q hq => fI a q (by omega)) f1
      · rw [fo _ _ (by omega), ← hA, upI_ne (by omega), upI_self]; rfl
      · rw [fo _ _ (by omega), ao _ _ (by omega), j5]; rfl
      · rw [fo _ _ (by omega), ← hA, upI_self]; exact hy
      · refine hC.kept okws.1 ?_ (fun b b0 b1 => funext fun q => ?_)
        · rw [← hF, upI_ne (by omega), xD _ _ (by omega), upI_ne (by omega), upI_ne (by omega)]
        · rw [← hF, upI_ne (by omega), xD _ _ (by omega), upI_ne (by omega), upI_ne (by omega)]
      · refine hB.kept (fun x x0 x1 => funext fun q => ?_)
        rw [← hF, upI_ne (by omega), xD _ _ (by omega), upI_ne (by omega), upI_ne (by omega), xC _ _ (by omega)]
      · exact hR.2.2.2.2.2.1.nil (fI _ _ (by omega)) (by rw [← hF, upI_self])
      · rcases (show i = 0 ∨ i = 1 by omega) with z | z
        · subst z; rw [← hF, upI_ne (by omega)]; exact g0
        · subst z; rw [← hF, upI_ne (by omega)]; exact g1
      · rw [fI _ _ (by omega)]; exact hR.2.2.2.2.2.2.2.1
      · rw [← hF, upI_ne (by omega), xD _ _ (by omega), upI_ne (by omega), upI_self]; rfl
      · rw [← hF, upI_ne (by omega), xD _ _ (by omega), upI_self]; rfl
    have fin : ∀ F, Rc (desked S row ws) F → Ex aC I F → fg F 40 41 row → _ := fun F hF xF f1 => And.intro (show rK r' 2 = 10 from cb.1) (And.intro (show rK r' (rR r' 2 2) = 7 by simp only [cb, s1]) (And.intro (show rK r' (rR r' (rR r' 2 2) 0) = 2 by simp only [cb, s2, s3.1]) (show Q (F (rR r' (rR r' 2 2) 0) 1) (F, r') by simp only [cb, s2, f1.1]; exact k F r' hF xF oJ)))
    refine ⟨fun z => j19 0 _ ?_ fin, fun z => j19 1 _ ?_ fin⟩
    · rw [if_pos (List.length_eq_zero_iff.mp (by omega))]
    · rw [if_neg (fun zz => z (by rw [zz]; simp))]
  · rw [if_neg pn] at k
    have c' := c.of oJ.1
    have cb := c'.1
    unfold sRa at cb
    have d1 := c'.2.1.1
    have hz := (pzR_ok w).1
    have f4 : upI J 3 3 0 3 4 = (pzR S).1 := by rw [upI_ne (by omega), j4]
    simp only [hK_p, hL_p, hI_p, hR_p, wI_p, cpI_p, hN_p, forall_eq, true_and, and_true, ne_eq, not_true_eq_false, not_false_eq_true, true_implies, false_implies, imp_false, implies_true, if_true, if_false, reduceCtorEq, cb, d1, f4]
    refine ⟨fun z => absurd z pn, fun _ => ⟨by omega, k _ r' ?_ (fun a q hq => by rw [upI_ne (by omega), xJ a q (by omega)]) oJ⟩⟩
    have fo : ∀ a q, ¬ ((5 ≤ a ∧ a ≤ 22) ∨ a = 3) → upI J 3 3 0 a q = I a q := fun a q hq => by rw [upI_ne (by omega), xJ a q (by omega)]
    have er : ∀ a : Nat, 22 < a → upI J 3 3 0 a = I a := fun a ha => funext fun q => fo a q (by omega)
    obtain ⟨h1, h2, h3, h4, h5, h6, h7, h8, h9, h10⟩ := hR
    exact ⟨⟨by rw [upI_self]; rfl, Seg.nil _ _⟩, by rw [upI_ne (by omega), j5], (fo _ _ (by omega)).trans h3, h4.kept okw.1 (fo _ _ (by omega)) (fun b b0 b1 => er b (by omega)), h5.kept (fun b b0 b1 => er b (by omega)), h6.kept (fun b b0 b1 => er b (by omega)), h7.kept (fun b b0 b1 => er b (by omega)), (fo _ _ (by omega)).trans h8, h9.kept (fo _ _ (by omega)) (er _ (by omega)) (er _ (by omega)) (er _ (by omega)), h10.kept (fo _ _ (by omega)) (er _ (by omega)) (er _ (by omega))⟩
