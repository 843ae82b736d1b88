/-! COMPONENT, part 23: the places followed through a row -/
theorem Seg.hd {f : Int → Int} {off b : Int} {B : List Int} (h : Seg f off (b :: B)) : f off = b := by
  have := h 0 b rfl
  rw [show off + ((0 : Nat) : Int) = off by omega] at this
  exact this
theorem Seg.tl {f : Int → Int} {off b : Int} {B : List Int} (h : Seg f off (b :: B)) : Seg f (off + 1) B := fun k v hk => by
  have := h (k + 1) v hk
  rw [show off + ((k + 1 : Nat) : Int) = off + 1 + k by omega] at this
  exact this
theorem wk_snoc (x : Int) : ∀ (U : List Int) (l : Int) (m : Nat) (o : List Int), wk l m o (U ++ [x]) = if x = (wk l m o U).1 then ((wk l m o U).1, (wk l m o U).2.1 + 1, (wk l m o U).2.2) else (x, 1, (wk l m o U).2.2 ++ sM 0 (wk l m o U).2.1 (wk l m o U).1)
  | [], l, m, o => rfl
  | y :: U, l, m, o => by
    by_cases e : y = l
    · have e1 : wk l m o (y :: U) = wk l (m + 1) o U := if_pos e
      have e2 : wk l m o ((y :: U) ++ [x]) = wk l (m + 1) o (U ++ [x]) := if_pos e
      rw [e1, e2, wk_snoc x U l (m + 1) o]
    · have e1 : wk l m o (y :: U) = wk y 1 (o ++ sM 0 m l) U := if_neg e
      have e2 : wk l m o ((y :: U) ++ [x]) = wk y 1 (o ++ sM 0 m l) (U ++ [x]) := if_neg e
      rw [e1, e2, wk_snoc x U y 1 (o ++ sM 0 m l)]
theorem wk_all (U : List Int) : sR 0 (-1) 0 U = (wk (-1) 0 [] U).2.2 ++ sM 0 (wk (-1) 0 [] U).2.1 (wk (-1) 0 [] U).1 := by
  have h := wk_sR [] U (-1) 0 []
  rw [List.nil_append, List.append_nil] at h
  rw [h]; rfl
theorem wk_m : ∀ (U : List Int) (l : Int) (m : Nat) (o : List Int), (wk l m o U).2.1 ≤ max m 1 + U.length
  | [], l, m, o => by show m ≤ _; omega
  | y :: U, l, m, o => by
    have hl : (y :: U).length = U.length + 1 := rfl
    by_cases e : y = l
    · have e1 : wk l m o (y :: U) = wk l (m + 1) o U := if_pos e
      have := wk_m U l (m + 1) o
      rw [e1]; omega
    · have e1 : wk l m o (y :: U) = wk y 1 (o ++ sM 0 m l) U := if_neg e
      have := wk_m U y 1 (o ++ sM 0 m l)
      rw [e1]; omega
def kpt (X : List Int) (s : Nat) : Prop := X.getD s 0 ≠ (wk (-1) 0 [] (X.take s)).1 ∨ (wk (-1) 0 [] (X.take s)).2.1 % 9 = 0
abbrev aPp : Nat → Int → Prop := fun a k => (a = 358 ∧ k = 2) ∨ a = 359 ∨ a = 360
theorem filter_snoc (f : Nat → Bool) (A : List Nat) (b : Nat) : (A ++ [b]).filter f = if f b = true then A.filter f ++ [b] else A.filter f := by
  rw [List.filter_append]
  by_cases e : f b = true
  · rw [if_pos e, List.filter_cons_of_pos e]; rfl
  · rw [if_neg e, List.filter_cons_of_neg e]; simp
theorem c_follow {I : Im} {r : Rs} {a c : Nat} {n : Int} {X : List Int} {ps : List Nat} {sd sd' : Nat → Nat} {keep : Nat → Bool} {Q : Hp → Prop} (cs : Cs r) (s : Fs r a c n) (h : fg I a c X) (hl : (X.length : Int) ≤ n) (hb : X.length ≤ 100000)
  (h0 : I 358 2 = ps.length) (h1 : Seg (I 359) 0 (ps.map fun p : Nat => (p : Int))) (h2 : Seg (I 360) 0 (ps.map fun p => (sd p : Int))) (hps : ps.length ≤ 60) (so : ps.Pairwise (fun p q => sd p < sd q)) (lt : ∀ p ∈ ps, sd p < X.length) (kp : ∀ p ∈ ps, keep p = true ↔ kpt X (sd p)) (sn : ∀ p ∈ ps, keep p = true → sd' p = (sR 0 (-1) 0 (X.take (sd p))).length)
  (k : ∀ I' : Im, I' 358 2 = (ps.filter keep).length → Seg (I' 359) 0 ((ps.filter keep).map fun p : Nat => (p : Int)) → Seg (I' 360) 0 ((ps.filter keep).map fun p => (sd' p : Int)) → Ex aPp I I' → Q (I', r)) : C_X5_follow 358 a (I, r) Q := by
  have pt := cs.2.2.2.2.2.2.2.2.2.2.1
  unfold sPt at pt
  have na : a ≠ 358 ∧ a ≠ 359 ∧ a ≠ 360 := ⟨fun z => by have := s.1; rw [z, pt.1] at this; omega, fun z => by have := s.1; rw [z, pt.2.1.2.1] at this; omega, fun z => by have := s.1; rw [z, pt.2.2.2.1] at this; omega⟩
  have nc : c ≠ 358 ∧ c ≠ 359 ∧ c ≠ 360 := ⟨fun z => by have := s.2.2.1; rw [z, pt.1] at this; omega, fun z => by have := s.2.2.1; rw [z, pt.2.1.2.1] at this; omega, fun z => by have := s.2.2.1; rw [z, pt.2.2.2.1] at this; omega⟩
  apply G_X5_follow
  unfold V_X5_follow
  refine Lp_X5_follow_16_ind (fun x2 x3 x4 x5 x6 x7 hh => ∃ (i : Nat) (A B : List Nat) (J : Im), x7 = i ∧ i ≤ X.length ∧ x2 = (wk (-1) 0 [] (X.take i)).2.2.length ∧ x3 = (wk (-1) 0 [] (X.take i)).1 ∧ x4 = (wk (-1) 0 [] (X.take i)).2.1 ∧ ps = A ++ B ∧ x5 = A.length ∧ x6 = (A.filter keep).length ∧ hh = (J, r) ∧ Ex aPp I J ∧ J 358 2 = ps.length ∧ Seg (J 359) 0 ((A.filter keep).map fun p : Nat => (p : Int)) ∧ Seg (J 360) 0 ((A.filter keep).map fun p => (sd' p : Int)) ∧ Seg (J 359) A.length (B.map fun p : Nat => (p : Int)) ∧ Seg (J 360) A.length (B.map fun p => (sd p : Int)) ∧ ∀ p ∈ B, i ≤ sd p) (fun _ _ _ _ _ x7 _ => X.length - x7.toNat) ?_ _ _ _ _ _ _ _ ⟨0, [], ps, I, rfl, Nat.zero_le _, rfl, rfl, rfl, rfl, rfl, rfl, rfl, Ex.refl I, h0, Seg.nil _ _, Seg.nil _ _, h1, h2, fun _ _ => Nat.zero_le _⟩
  intro P x2 x3 x4 x5 x6 x7 hh hI ih
  obtain ⟨i, A, B, J, rfl, i1, rfl, rfl, rfl, e1, rfl, rfl, rfl, eJ, j0, j1, j2, j3, j4, j5⟩ := hI
  have hJ : fg J a c X := h.ex eJ (by omega) (fun q => by omega)
  have lf : (A.filter keep).length ≤ A.length := List.length_filter_le _ _
  have lAB : ps.length = A.length + B.length := by rw [e1, List.length_append]
  have fin : B = [] → Q (upI J 358 2 ((A.filter keep).length : Nat), r) := by
    intro z
    have hA : ps = A := by rw [e1, z, List.append_nil]
    rw [← hA] at j1 j2 ⊢
    exact k _ (upI_self _ _ _ _) (j1.congr (fun q _ _ => upI_ne (by omega))) (j2.congr (fun q _ _ => upI_ne (by omega))) (fun x q hq => by rw [upI_ne (by omega), eJ x q hq])
  have wm := wk_m (X.take i) (-1) 0 []
  have lt1 : (X.take i).length = i := by rw [List.length_take]; omega
  have wl := congrArg List.length (wk_all (X.take i))
  have wb := sR_len 0 (X.take i) (-1) 0
  rw [List.length_append, sM_k0, sMl0_len] at wl
  unfold BLp_X5_follow_16
  simp only [hK_p, hL_p, hI_p, hR_p, wI_p, cpI_p, hN_p, forall_eq, true_and, and_true, ne_eq, not_true_eq_false, not_false_eq_true, true_implies, false_implies, imp_false, implies_true, if_true, if_false, reduceCtorEq, pt, s.1, hJ.1, j0]
  refine ⟨fun z => ?_, fun z => ⟨fun z2 => ?_, fun z2 => ?_⟩⟩
  · refine fin ?_
    match B, j5 with
    | [], _ => rfl
    | b :: B, j5 =>
      have g1 := j5 b (List.mem_cons_self ..)
      have g2 := lt b (by rw [e1]; exact List.mem_append_right _ (List.mem_cons_self ..))
      omega
  · exact fin (List.length_eq_zero_iff.mp (by omega))
  · have hi : i < X.length := by omega
    have ts : X.take (i + 1) = X.take i ++ [X[i]] := List.take_succ_eq_append_getElem hi
    have gd : X.getD i 0 = X[i] := by rw [List.getD_eq_getElem?_getD, List.getElem?_eq_getElem hi]; rfl
    have ws := wk_snoc X[i] (X.take i) (-1) 0 []
    rw [← ts] at ws
    have j69 : ∀ (y2 : Nat) (y3 : Int) (y4 : Nat), y2 ≤ 1000000 → y4 ≤ 1000000 → (wk (-1) 0 [] (X.take (i + 1))).1 = y3 → (wk (-1) 0 [] (X.take (i + 1))).2.1 = y4 + 1 → (wk (-1) 0 [] (X.take (i + 1))).2.2.length = y2 → (kpt X i ↔ y4 % 9 = 0) → (y4 % 9 = 0 → (sR 0 (-1) 0 (X.take i)).length = y2 + 2 * (y4 / 9)) → J_X5_follow_69 P 358 a y2 y3 y4 A.length (A.filter keep).length i (J, r) Q := by
      intro y2 y3 y4 b2 b4 w1 w2 w3 w4 w5
      match B, e1, j3, j4, j5, lAB with
      | [], e1, j3, j4, j5, lAB => exact absurd z2 (by simp at lAB; omega)
      | b :: B, e1, j3, j4, j5, lAB =>
        have hbm : b ∈ ps := by rw [e1]; exact List.mem_append_right _ (List.mem_cons_self ..)
        have lB : (b :: B).length = B.length + 1 := rfl
        have sB : ∀ p ∈ B, sd b < sd p := by
          rw [e1] at so
          have := (List.pairwise_append.mp so).2.1
          exact fun p hp => List.rel_of_pairwise_cons this hp
        have g1 := j5 b (List.mem_cons_self ..)
        have c3 : J 359 (A.length : Int) = b := j3.hd
        have c4 : J 360 (A.length : Int) = (sd b : Int) := j4.hd
        have e2 : ps = (A ++ [b]) ++ B := by rw [e1, List.append_assoc]; rfl
        have lA1 : (A ++ [b]).length = A.length + 1 := by rw [List.length_append]; rfl
        have fs := filter_snoc keep A b
        unfold J_X5_follow_69
        simp only [hK_p, hL_p, hI_p, hR_p, wI_p, cpI_p, hN_p, forall_eq, true_and, and_true, ne_eq, not_true_eq_false, not_false_eq_true, true_implies, false_implies, imp_false, implies_true, if_true, if_false, reduceCtorEq, pt, c3, c4]
        refine ⟨by omega, fun q1 => ⟨by omega, by omega, ih _ _ _ _ _ _ _ ⟨i + 1, A, b :: B, J, by omega, hi, by rw [w3], by rw [w1], by rw [w2]; omega, e1, rfl, rfl, rfl, eJ, j0, j1, j2, j3, j4, fun p hp => ?_⟩ (by omega)⟩, fun q1 => ⟨by omega, fun q2 => ⟨by omega, by omega, by omega, ?_⟩, fun q2 => ?_⟩⟩
        · rcases List.mem_cons.mp hp with z | z
          · rw [z]; omega
          · have := sB p z; omega
        · have hk : keep b ≠ true := fun zz => by
            have := (kp b hbm).mp zz
            rw [show sd b = i by omega] at this
            have := w4.mp this
            omega
          rw [if_neg hk] at fs
          refine ih _ _ _ _ _ _ _ ⟨i + 1, A ++ [b], B, J, by omega, hi, by rw [w3], by rw [w1], by rw [w2]; omega, e2, by rw [lA1]; omega, by rw [fs], rfl, eJ, j0, by rw [fs]; exact j1, by rw [fs]; exact j2, by rw [lA1]; exact j3.tl, by rw [lA1]; exact j4.tl, fun p hp => ?_⟩ (by omega)
          have := sB p hp; omega
        · have hk : keep b = true := (kp b hbm).mpr (by rw [show sd b = i by omega]; exact w4.mpr (by omega))
          have hs := sn b hbm hk
          rw [show sd b = i by omega, w5 (by omega)] at hs
          rw [if_pos hk] at fs
          have lm : ((A.filter keep).map fun p : Nat => (p : Int)).length = (A.filter keep).length := List.length_map ..
          have lm2 : ((A.filter keep).map fun p => (sd' p : Int)).length = (A.filter keep).length := List.length_map ..
          have lm3 : (B.map fun p : Nat => (p : Int)).length = B.length := List.length_map ..
          have lm4 : (B.map fun p => (sd p : Int)).length = B.length := List.length_map ..
          refine ⟨by omega, by omega, by omega, by omega, by omega, by omega, by omega, by omega, by omega, by omega, ih _ _ _ _ _ _ _ ⟨i + 1, A ++ [b], B, _, by omega, hi, by rw [w3], by rw [w1], by rw [w2]; omega, e2, by rw [lA1]; omega, by rw [fs, List.length_append]; rfl, rfl, fun x q hq => ?_, ?_, ?_, ?_, ?_, ?_, fun p hp => ?_⟩ (by omega)⟩
          · rw [upI_ne (by omega), upI_ne (by omega), eJ x q hq]
          · rw [upI_ne (by omega), upI_ne (by omega), j0]
          · rw [fs, List.map_append]
            refine j1.snoc (fun q q1 q2 => ?_) ?_
            · rw [upI_ne (by omega), upI_ne (by omega)]
            · rw [lm, upI_ne (by omega), upI_at, if_pos (by omega)]
          · rw [fs, List.map_append]
            refine j2.snoc (fun q q1 q2 => ?_) ?_
            · rw [upI_ne (by omega), upI_ne (by omega)]
            · rw [lm2, upI_at, if_pos (by omega)]; dsimp only; omega
          · rw [lA1]
            refine j3.tl.congr (fun q q1 q2 => ?_)
            rw [upI_ne (by omega), upI_ne (by omega)]
          · rw [lA1]
            refine j4.tl.congr (fun q q1 q2 => ?_)
            rw [upI_ne (by omega), upI_ne (by omega)]
          · have := sB p hp; omega
    have kd : kpt X i ↔ (X[i] ≠ (wk (-1) 0 [] (X.take i)).1 ∨ (wk (-1) 0 [] (X.take i)).2.1 % 9 = 0) := by unfold kpt; rw [gd]
    refine c_here s hJ hl hi ⟨fun z3 => ?_, fun z3 => ⟨by omega, by omega, by omega, by omega, by omega, ?_⟩⟩
    · rw [if_pos z3] at ws
      refine j69 _ _ _ (by omega) (by omega) (by rw [ws]) (by rw [ws]) (by rw [ws]) ?_ (fun q => by omega)
      rw [kd]
      exact ⟨fun q => q.elim (fun q => absurd z3 q) id, Or.inr⟩
    · rw [if_neg z3] at ws
      refine ⟨s.1, c_here s hJ hl hi ?_⟩
      have := j69 ((wk (-1) 0 [] (X.take i)).2.2.length + 2 * (((wk (-1) 0 [] (X.take i)).2.1 + 8) / 9)) X[i] 0 (by omega) (by omega) (by rw [ws]) (by rw [ws]) (by rw [ws]; show List.length _ = _; rw [List.length_append, sM_k0, sMl0_len]) ⟨fun _ => rfl, fun _ => kd.mpr (Or.inl z3)⟩ (fun _ => by omega)
      have e3 : (((wk (-1) 0 [] (X.take i)).2.2.length : Nat) : Int) + 2 * ((((wk (-1) 0 [] (X.take i)).2.1 : Nat) + 9 - 1 : Int) / 9) = (((wk (-1) 0 [] (X.take i)).2.2.length + 2 * (((wk (-1) 0 [] (X.take i)).2.1 + 8) / 9) : Nat) : Int) := by omega
      rw [e3]
      exact this
