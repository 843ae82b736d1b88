/-! COMPONENT, part 8: draws -/
theorem zLand_m {n : Nat} (hn : n < 2 ^ 63) : zLand n 2147483647 = ((n % 2147483648 : Nat) : Int) := by
  unfold zLand
  have e : Int64.ofInt (n : Int) &&& Int64.ofInt 2147483647 = Int64.ofNat (n % 2147483648) := by
    apply Int64.toBitVec_inj.mp
    apply BitVec.eq_of_toNat_eq
    rw [Int64.toBitVec_and, BitVec.toNat_and, Int64.ofInt_eq_ofNat, show Int64.ofInt 2147483647 = Int64.ofNat (2 ^ 31 - 1) from rfl]
    rw [Int64.toBitVec_ofNat', Int64.toBitVec_ofNat', Int64.toBitVec_ofNat', BitVec.toNat_ofNat, BitVec.toNat_ofNat, BitVec.toNat_ofNat]
    rw [Nat.mod_eq_of_lt (show n < 2 ^ 64 by omega), Nat.mod_eq_of_lt (show 2 ^ 31 - 1 < 2 ^ 64 by decide), Nat.and_two_pow_sub_one_eq_mod, Nat.mod_eq_of_lt (show n % 2147483648 < 2 ^ 64 by omega)]
  rw [e, Int64.toInt_ofNat_of_lt (by omega)]
theorem zLand_s {s : Int} (h : okSd s) : zLand (s * 1103515245 + 12345) 2147483647 = sdN s := by
  obtain ⟨h0, h1⟩ := h
  have e := zLand_m (n := (s * 1103515245 + 12345).toNat) (by omega)
  rw [Int.toNat_of_nonneg (by omega)] at e
  rw [e]
  unfold sdN
  omega
theorem c_draw {I : Im} {r : Rs} {s n : Int} {Q : Int → Hp → Prop} (c : Cs r) (hs : I 2 11 = s) (ok : okSd s) (hn : 0 < n) (k : ∀ I', I' 2 11 = sdN s → Ex (fun a q => a = 2 ∧ q = 11) I I' → Q (sdN s / 65536 % n) (I', r)) : C_X11_draw 2 n (I, r) Q := by
  have ca := c.1
  unfold sRa at ca
  have e := zLand_s ok
  have e0 : 0 ≤ sdN s := by unfold sdN; omega
  have e1 : sdN s ≤ 2147483647 := by unfold sdN; omega
  obtain ⟨h0, h1⟩ := ok
  apply G_X11_draw
  unfold V_X11_draw
  simp only [hK_p, hL_p, hI_p, hR_p, wI_p, cpI_p, hN_p, forall_eq, true_and, and_true, ne_eq, not_true_eq_false, not_false_eq_true, true_implies, false_implies, imp_false, implies_true, if_true, if_false, reduceCtorEq, ca, hs, e, upI_self]
  refine ⟨by omega, by omega, by omega, fun z => absurd z (by omega), fun _ => ⟨by omega, by omega, ?_⟩⟩
  exact k _ (upI_self _ _ _ _) (Ex.up ⟨rfl, rfl⟩)
theorem Rc.seed {S : St} {I I' : Im} {s : Int} (h : Rc S I) (w : okWl (sWl S)) (e : Ex (fun a q => a = 2 ∧ q = 11) I I') (hs : I' 2 11 = s) : Rc (uSd S s) I' := by
  obtain ⟨h1, h2, h3, h4, h5, h6, h7, h8, h9, h10⟩ := h
  have er : ∀ a : Nat, a ≠ 2 → I' a = I a := fun a ha => e.row a (fun k => by omega)
  exact ⟨h1.kept (e _ _ (by omega)) (er _ (by omega)), (e _ _ (by omega)).trans h2, (e _ _ (by omega)).trans h3, h4.kept w.1 (e _ _ (by omega)) (fun b _ _ => er b (by omega)), h5.kept (fun b _ _ => er b (by omega)), h6.kept (fun b _ _ => er b (by omega)), h7.kept (fun b _ _ => er b (by omega)), hs, h9.kept (e _ _ (by omega)) (er _ (by omega)) (er _ (by omega)) (er _ (by omega)), h10.kept (e _ _ (by omega)) (er _ (by omega)) (er _ (by omega))⟩
theorem c_driftOnce {S : St} {I : Im} {r : Rs} {Q : Hp → Prop} (c : Cs r) (hJ : Rc (uNP S (sNw S) (push S)) I) (w : WF S) (k : ∀ I', Rc (dr1 S) I' → Ex aC I I' → Q (I', r)) : C_X11_driftOnce 2 (I, r) Q := by
  have ca := c.1
  unfold sRa at ca
  obtain ⟨s1, s2, s3, _⟩ := c.2.2.2.2.1
  have sp := c.2.2.2.2.2.2.2.2.2.2.2
  have okw := w.2.2.2.1
  have okn : NSok (sNw S) := w.2.2.2.2.1
  have hl := okn.1
  have o1 := sdN_ok (sSd S)
  apply G_X11_driftOnce
  unfold V_X11_driftOnce
  refine ⟨ca.1, c_draw (s := sSd S) c hJ.2.2.2.2.2.2.2.1 w.2.2.2.2.2.2.2.1 (by omega) (fun K k11 xK => ?_)⟩
  have hRK : Rc (uSd (uNP S (sNw S) (push S)) (sdN (sSd S))) K := Rc.seed hJ okw xK k11
  have fK : fg K 40 41 (sNw S).1 := hRK.2.2.2.2.1.1
  have eK : Ex aC I K := xK.mono (fun a q z => by omega)
  unfold dr1 at k
  generalize hW : sdN (sSd S) / 65536 % 8 = W at *
  have hW0 : 0 ≤ W ∧ W < 8 := by
    have := o1.1
    omega
  dsimp only at k
  simp only [hK_p, hL_p, hI_p, hR_p, wI_p, cpI_p, hN_p, forall_eq, true_and, and_true, ne_eq, not_true_eq_false, not_false_eq_true, true_implies, false_implies, imp_false, implies_true, if_true, if_false, reduceCtorEq, ca, s1, s2, s3.1, fK.1]
  refine ⟨fun z => ⟨fun z2 => ⟨by omega, ?_⟩, fun z2 => ⟨fun z3 => ?_, fun z3 => ?_⟩⟩, fun z => ?_⟩
  · rw [if_neg (by omega), if_neg z2] at k
    refine c_draw c k11 o1 (by omega) (fun L l11 xL => ⟨by simp only [hK_p, s3.1], ?_⟩)
    have hRL : Rc (uSd (uNP S (sNw S) (push S)) (sdN (sdN (sSd S)))) L := Rc.seed (S := uSd (uNP S (sNw S) (push S)) (sdN (sSd S))) hRK okw xL l11
    have o2 := (sdN_ok (sdN (sSd S))).1
    refine c_cut s3 hRL.2.2.2.2.1.1 (show (((sNw S).1.length : Nat) : Int) ≤ 60 by omega) (by omega) (show 0 ≤ _ ∧ _ ≤ (((sNw S).1.length : Nat) : Int) from ?_) (fun Z hZ xZ => ?_)
    · have g1 := Int.emod_nonneg (sdN (sdN (sSd S)) / 65536) (show (((sNw S).1.length : Nat) : Int) + 1 ≠ 0 by omega)
      have g2 := Int.emod_lt_of_pos (sdN (sdN (sSd S)) / 65536) (show (0 : Int) < (((sNw S).1.length : Nat) : Int) + 1 by omega)
      omega
    · refine k Z ?_ (fun a q hq => by rw [xZ a q (by omega), xL a q (by omega), eK a q hq])
      exact Rc.now (n := (_, (sNw S).2)) hRL okw (xZ.mono (fun a q z => by omega)) (hRL.2.2.2.2.1.row hZ xZ)
  · rw [if_neg (by omega), if_pos z2, if_neg (by omega)] at k
    exact k K hRK eK
  · rw [if_neg (by omega), if_pos z2, if_pos (by omega)] at k
    refine c_draw c k11 o1 (by omega) (fun L l11 xL => ⟨by simp only [hK_p, s3.1], ?_⟩)
    have hRL : Rc (uSd (uNP S (sNw S) (push S)) (sdN (sdN (sSd S)))) L := Rc.seed (S := uSd (uNP S (sNw S) (push S)) (sdN (sSd S))) hRK okw xL l11
    have o2 := (sdN_ok (sdN (sSd S))).1
    refine c_add s3 hRL.2.2.2.2.1.1 (show (((sNw S).1.length : Nat) : Int) < 60 by omega) (by omega) (by omega) (fun Z hZ xZ => ?_)
    refine k Z ?_ (fun a q hq => by rw [xZ a q (by omega), xL a q (by omega), eK a q hq])
    exact Rc.now (n := (_, (sNw S).2)) hRL okw (xZ.mono (fun a q z => by omega)) (hRL.2.2.2.2.1.row hZ xZ)
  · rw [if_pos (by omega)] at k
    refine c_say s3 sp (by omega) fK okn.2.1 (by omega) (by omega) (by omega) (by omega) (fun L hL xL => ?_)
    have hRL : Rc (uSd (uNP S (sNw S) (push S)) (sdN (sSd S))) L := hRK.kept okw (xL.mono (fun a q z => by omega))
    have eL : Ex aC I L := fun a q hq => by rw [xL a q (by omega), eK a q hq]
    simp only [hK_p, hL_p, hI_p, hR_p, wI_p, cpI_p, hN_p, forall_eq, true_and, and_true, ne_eq, not_true_eq_false, not_false_eq_true, true_implies, false_implies, imp_false, implies_true, if_true, if_false, reduceCtorEq, ca, s1, sp.1, hL.1]
    refine ⟨fun z2 => ?_, fun z2 => ?_⟩
    · rw [if_neg (by omega)] at k
      exact k L hRL eL
    · rw [if_pos (by omega)] at k
      refine c_becomeReading c.2.2.2.2.1 sp (by omega) (by omega) hRL.2.2.2.2.1 okn hL (by omega) (by omega) (by omega) (fun Z hZ xZ => ?_)
      exact k Z (Rc.now hRL okw (xZ.mono (fun a q z => by omega)) hZ) (fun a q hq => by rw [xZ a q (by omega), eL a q hq])
theorem q_drift {S : St} {I : Im} {r : Rs} {n : Int} {Q : Int → Hp → Prop} (c : Cs r) (hR : Rc S I) (w : WF S) (k : ∀ I', Rc (oDrift S n).2 I' → Ex aC I I' → Q (oDrift S n).1 (I', r)) : C_X11_drift 2 n (I, r) Q := by
  have ca := c.1
  unfold sRa at ca
  obtain ⟨s1, s2, s3, _⟩ := c.2.2.2.2.1
  have e4 := hR.2.2.2.2.1.2.2.1
  unfold oDrift at k
  apply G_X11_drift
  unfold V_X11_drift
  simp only [hK_p, hL_p, hI_p, hR_p, wI_p, cpI_p, hN_p, forall_eq, true_and, and_true, ne_eq, not_true_eq_false, not_false_eq_true, true_implies, false_implies, imp_false, implies_true, if_true, if_false, reduceCtorEq, ca, s1, e4]
  refine ⟨fun z => ?_, fun z => ⟨fun z2 => ⟨fun z3 => ?_, fun z3 => ?_⟩, fun z2 => ?_⟩⟩
  · rw [if_neg (by omega)] at k; exact k I hR (Ex.refl I)
  · rw [if_pos (by omega), if_neg (by omega)] at k
    have wf : ∀ u : Nat, u ≤ 20 → WF (drN S u) ∧ (sNw (drN S u)).2.1 ≤ (sNw S).2.1 + u := drN_wf w (by omega)
    refine Lp_X11_drift_31_ind (fun x h => ∃ (u : Nat) (J : Im), x = u ∧ (u : Int) ≤ n ∧ h = (J, r) ∧ Rc (drN S u) J ∧ Ex aC I J) (fun x _ => n.toNat - x.toNat) ?_ _ _ ⟨0, I, rfl, by omega, rfl, hR, Ex.refl I⟩
    intro P x h hI ih
    obtain ⟨u, J, rfl, u1, rfl, u2, u3⟩ := hI
    unfold BLp_X11_drift_31
    simp only [hK_p, hL_p, hI_p, hR_p, wI_p, cpI_p, hN_p, forall_eq, true_and, and_true, ne_eq, not_true_eq_false, not_false_eq_true, true_implies, false_implies, imp_false, implies_true, if_true, if_false, reduceCtorEq, ca, s1, s2, s3.1, c.2.2.2.2.2.1.1, u2.2.2.2.2.1.1.1]
    refine ⟨fun z4 => ?_, fun z4 => ?_⟩
    · have : n.toNat = u := by omega
      rw [this] at k
      exact k J u2 u3
    · have wu := (wf u (by omega)).1
      refine c_remember c u2 wu (fun K hK xK => ⟨ca.1, c_driftOnce c hK wu (fun L hL xL => ⟨by omega, ih _ _ ⟨u + 1, L, by omega, by omega, rfl, hL, fun a q hq => by rw [xL a q hq, xK a q (by omega), u3 a q hq]⟩ (by omega)⟩)⟩)
  · rw [if_pos (by omega), if_pos (by omega)] at k; exact k I hR (Ex.refl I)
  · rw [if_neg (by omega)] at k; exact k I hR (Ex.refl I)
