/-! MODEL, part 8: images, reading, unreading -/
theorem m_keep {S : St} {I : Im} {r : Rs} {i : Int} {Q : Int → Hp → Prop} (m : Mst r) (hR : Rm S I) (w : WF S) (k : ∀ I', Rm (oKeep S i).2 I' → Ex aM I I' → Q (oKeep S i).1 (I', r)) : C_X12_keep 363 i (I, r) Q := by
  have m' := m
  unfold Mst at m'
  have okn : NSok (sNw S) := w.2.2.2.2.1
  apply G_X12_keep
  unfold V_X12_keep
  unfold oKeep at k
  refine m_is (fun c => ⟨fun _ => ?_, fun z => absurd z (by decide)⟩) (fun c => ⟨fun z => absurd rfl z, fun _ => ?_⟩)
  · rw [if_pos c] at k
    simp only [hK_p, hL_p, hI_p, hR_p, wI_p, cpI_p, hN_p, forall_eq, true_and, and_true, ne_eq, not_true_eq_false, not_false_eq_true, true_implies, false_implies, imp_false, implies_true, if_true, if_false, reduceCtorEq, m']
    refine ⟨⟨by omega, by omega⟩, ?_⟩
    refine m_bring (by simp only [m']) (by simp only [m']) (by omega) (by simp only [m']; omega) (by omega) (by simp only [m']; omega) (by omega) (by simp only [m']; omega) (by simp only [m']; omega) (Or.inl (by omega)) ?_
    have f0 : cpy I 370 0 372 (103 * i) 103 363 20 = sSd S := by rw [cpy_at, if_neg (by omega)]; exact hR.2.2.2.2.2.2.2.1
    simp only [hK_p, hL_p, hI_p, hR_p, wI_p, cpI_p, hN_p, forall_eq, true_and, and_true, ne_eq, not_true_eq_false, not_false_eq_true, true_implies, false_implies, imp_false, implies_true, if_true, if_false, reduceCtorEq, m', f0]
    refine ⟨⟨by omega, by omega⟩, ⟨by omega, by omega, Or.inr trivial⟩, ?_⟩
    have ex : Ex (fun a q => a = 372 ∧ 103 * i ≤ q ∧ q < 103 * i + 103 ∨ a = 373 ∧ q = i ∨ a = 374 ∧ q = i ∨ a = 363 ∧ q = 16) I (upI (upI (upI (cpy I 370 0 372 (103 * i) 103) 373 i (sSd S)) 374 i 1) 363 16 0) := fun a q hq => by
      rw [upI_ne (by omega), upI_ne (by omega), upI_ne (by omega), cpy_at, if_neg (by omega)]
    generalize hJ : upI (upI (upI (cpy I 370 0 372 (103 * i) 103) 373 i (sSd S)) 374 i 1) 363 16 0 = J at *
    refine k _ ?_ (ex.mono (fun a q h => by omega))
    obtain ⟨h1, h2, h3, h4, h5, h6, h7, h8, h9, h10⟩ := hR
    have rr0 : ∀ a : Nat, a ≠ 363 ∧ a ≠ 372 ∧ a ≠ 373 ∧ a ≠ 374 → J a = I a := fun a ha => ex.row a (fun k => by omega)
    refine ⟨h1.kept (ex _ _ (by omega)) (rr0 _ (by omega)), (ex _ _ (by omega)).trans h2, (ex _ _ (by omega)).trans h3, h4.kept (ex _ _ (by omega)) (rr0 _ (by omega)) (rr0 _ (by omega)), by rw [rr0 370 (by omega)]; exact h5, ⟨by rw [← hJ, upI_self]; rfl, fun j n hj => by have hj : ([] : List NS)[j]? = some n := hj; simp at hj⟩, fun j hj => ?_, (ex _ _ (by omega)).trans h8, h9.kept (ex _ _ (by omega)) (rr0 _ (by omega)) (rr0 _ (by omega)) (rr0 _ (by omega)), h10.kept (ex _ _ (by omega)) (rr0 _ (by omega)) (rr0 _ (by omega))⟩
    show ((if j = i.toNat then some (sNw S, sSd S) else sIm S j) = none → _) ∧ ∀ q, (if j = i.toNat then some (sNw S, sSd S) else sIm S j) = some q → _
    by_cases hji : j = i.toNat
    · rw [if_pos hji]
      have ej : (j : Int) = i := by omega
      refine ⟨fun z => (by cases z), fun q hq => ?_⟩
      cases hq
      rw [ej]
      refine ⟨?_, ?_, ?_⟩
      · rw [← hJ, upI_ne (by omega), upI_self]
      · refine h5.shift okn (fun q q0 q1 => ?_)
        rw [← hJ, upI_ne (by omega), upI_ne (by omega), upI_ne (by omega), cpy_at, if_pos (by omega)]
        congr 1
        omega
      · rw [← hJ, upI_ne (by omega), upI_ne (by omega), upI_self]
    · rw [if_neg hji]
      obtain ⟨z1, z2⟩ := h7 j hj
      refine ⟨fun z => by rw [ex _ _ (by omega)]; exact z1 z, fun q hq => ?_⟩
      obtain ⟨y1, y2, y3⟩ := z2 q hq
      have okq := (w.2.2.2.2.2.2.1 j q hq).1
      exact ⟨by rw [ex _ _ (by omega)]; exact y1, y2.congr okq (fun q a b => ex _ _ (by omega)), by rw [ex _ _ (by omega)]; exact y3⟩
  · rw [if_neg c] at k
    exact k I hR (Ex.refl I)
theorem m_goBack {S : St} {I : Im} {r : Rs} {i : Int} {Q : Int → Hp → Prop} (m : Mst r) (hR : Rm S I) (w : WF S) (k : ∀ I', Rm (oGoBack S i).2 I' → Ex aM I I' → Q (oGoBack S i).1 (I', r)) : C_X12_goBack 363 i (I, r) Q := by
  have m' := m
  unfold Mst at m'
  apply G_X12_goBack
  unfold V_X12_goBack
  unfold oGoBack at k
  refine m_is (fun c => ⟨fun _ => ?_, fun z => absurd z (by decide)⟩) (fun c => ⟨fun z => absurd rfl z, fun _ => ?_⟩)
  · rw [if_pos c] at k
    obtain ⟨z1, z2⟩ := hR.2.2.2.2.2.2.1 i.toNat (by omega)
    rw [toNat_cast c.1] at z1 z2
    simp only [hK_p, hL_p, hI_p, hR_p, wI_p, cpI_p, hN_p, forall_eq, true_and, and_true, ne_eq, not_true_eq_false, not_false_eq_true, true_implies, false_implies, imp_false, implies_true, if_true, if_false, reduceCtorEq, m']
    cases hq : sIm S i.toNat with
    | none =>
      rw [hq] at k
      rw [z1 hq]
      exact ⟨⟨by omega, by omega⟩, fun z => absurd rfl z, fun _ => k I hR (Ex.refl I)⟩
    | some q =>
      rw [hq] at k
      obtain ⟨y1, y2, y3⟩ := z2 q hq
      have okq := (w.2.2.2.2.2.2.1 _ q hq).1
      rw [y1]
      refine ⟨⟨by omega, by omega⟩, fun _ => ⟨⟨by omega, by omega⟩, ?_⟩, fun z => absurd z (by decide)⟩
      refine m_bring (by simp only [m']) (by simp only [m']) (by omega) (by simp only [m']; omega) (by omega) (by simp only [m']; omega) (by omega) (by simp only [m']; omega) (by simp only [m']; omega) (Or.inl (by omega)) ?_
      have f0 : cpy I 372 (103 * i) 370 0 103 373 i = q.2 := by rw [cpy_at, if_neg (by omega)]; exact y3
      simp only [hK_p, hL_p, hI_p, hR_p, wI_p, cpI_p, hN_p, forall_eq, true_and, and_true, ne_eq, not_true_eq_false, not_false_eq_true, true_implies, false_implies, imp_false, implies_true, if_true, if_false, reduceCtorEq, m', f0]
      refine ⟨⟨by omega, by omega⟩, ?_⟩
      have ex : Ex (fun a q => a = 370 ∨ a = 363 ∧ (q = 16 ∨ q = 20)) I (upI (upI (cpy I 372 (103 * i) 370 0 103) 363 20 q.2) 363 16 0) := fun a p hp => by
        rw [upI_ne (by omega), upI_ne (by omega), cpy_at, if_neg (by omega)]
      generalize hJ : upI (upI (cpy I 372 (103 * i) 370 0 103) 363 20 q.2) 363 16 0 = J at *
      refine k _ ?_ (ex.mono (fun a q h => by omega))
      obtain ⟨h1, h2, h3, h4, h5, h6, h7, h8, h9, h10⟩ := hR
      have rr0 : ∀ a : Nat, a ≠ 363 ∧ a ≠ 370 → J a = I a := fun a ha => ex.row a (fun k => by omega)
      refine ⟨h1.kept (ex _ _ (by omega)) (rr0 _ (by omega)), (ex _ _ (by omega)).trans h2, (ex _ _ (by omega)).trans h3, h4.kept (ex _ _ (by omega)) (rr0 _ (by omega)) (rr0 _ (by omega)), ?_, ⟨by rw [← hJ, upI_self]; rfl, fun j n hj => by have hj : ([] : List NS)[j]? = some n := hj; simp at hj⟩, h7.kept (rr0 _ (by omega)) (rr0 _ (by omega)) (rr0 _ (by omega)), by rw [← hJ, upI_ne (by omega), upI_self]; rfl, h9.kept (ex _ _ (by omega)) (rr0 _ (by omega)) (rr0 _ (by omega)) (rr0 _ (by omega)), h10.kept (ex _ _ (by omega)) (rr0 _ (by omega)) (rr0 _ (by omega))⟩
      refine y2.shift okq (fun p p0 p1 => ?_)
      rw [← hJ, upI_ne (by omega), upI_ne (by omega), cpy_at, if_pos (by omega)]
      congr 1
      omega
  · rw [if_neg c] at k
    exact k I hR (Ex.refl I)
theorem Seg.cons {f : Int → Int} {off v : Int} {xs : List Int} (h0 : f off = v) (h : Seg f (off + 1) xs) : Seg f off (v :: xs) := by
  intro k u hu
  cases k with
  | zero =>
    simp at hu
    simp
    rw [h0, hu]
  | succ k =>
    have := h k u (by simpa using hu)
    rw [← this]
    congr 1
    omega
/-- the log, one longer: at most twenty -/
theorem log_seg {f g : Int → Int} {o v : Int} {xs : List Int} (h : Seg f o xs) (hl : xs.length ≤ 20) (h0 : g o = v) (e : ∀ q : Int, 1 ≤ q → q ≤ 19 → g (o + q) = f (o + q - 1)) : Seg g o ((v :: xs).take 20) := by
  rw [List.take_succ_cons]
  refine Seg.cons h0 ?_
  intro k u hu
  rw [List.getElem?_take] at hu
  split at hu
  · have := h k u hu
    rw [← this, show o + 1 + (k : Int) = o + (k + 1) by omega, e (k + 1) (by omega) (by omega)]
    congr 1
    omega
  · cases hu
theorem m_become {I : Im} {r : Rs} {xs : List Int} {Q : Hp → Prop} (m : Mst r) (hw : rw_ I xs) (hl : xs.length ≤ 60) (k : ∀ I' : Im, I' 370 0 = xs.length → Seg (I' 370) 3 xs → Ex (fun a q => a = 370 ∧ (q = 0 ∨ (3 ≤ q ∧ q < 63))) I I' → Q (I', r)) : C_X12_become 363 (I, r) Q := by
  have m' := m
  unfold Mst at m'
  apply G_X12_become
  unfold V_X12_become
  simp only [hK_p, hL_p, hI_p, hR_p, wI_p, cpI_p, hN_p, forall_eq, true_and, and_true, ne_eq, not_true_eq_false, not_false_eq_true, true_implies, false_implies, imp_false, implies_true, if_true, if_false, reduceCtorEq, m', hw.1]
  have f0 : upI I 370 0 (xs.length : Int) 363 29 = xs.length := by rw [upI_ne (by omega), hw.1]
  rw [f0]
  refine ⟨⟨by omega, by omega⟩, ?_⟩
  refine m_bring (by simp only [m']) (by simp only [m']) (by omega) (by simp only [m']; omega) (by omega) (by simp only [m']; omega) (by omega) (by simp only [m']; omega) (by simp only [m']; omega) (Or.inl (by omega)) ?_
  refine k _ ?_ (hw.2.shift (fun q q0 q1 => ?_)) (fun a q hq => ?_)
  · rw [cpy_at, if_neg (by omega), upI_self]
  · rw [cpy_at, if_pos (by omega), upI_ne (by omega)]
    congr 1
    omega
  · rw [cpy_at, if_neg (by omega), upI_ne (by omega)]
theorem m_logs {S : St} {I : Im} {r : Rs} {kind : Int} {xs : List Int} {Q : Hp → Prop} (m : Mst r) (hR : Rm S I) (okn : NSok (sNw S)) (hw : rw_ I xs) (hl : xs.length ≤ 60) (k : ∀ I', Rm (uNw S (xs, (sNw S).2.1 + 1, ((kind, ((sNw S).1.length : Int)) :: (sNw S).2.2).take 20)) I' → I' 363 29 = xs.length → Ex (fun a _ => a = 370) I I' → Q (I', r)) : C_X12_logs 363 kind (I, r) Q := by
  have m' := m
  unfold Mst at m'
  obtain ⟨n1, n2, n3, n4, n5, n6⟩ := hR.2.2.2.2.1
  rw [show (0 : Int) + 1 = 1 by omega] at n2
  rw [show (0 : Int) + 2 = 2 by omega] at n3
  rw [show (0 : Int) + 63 = 63 by omega] at n5
  rw [show (0 : Int) + 83 = 83 by omega] at n6
  obtain ⟨k1, k2, k3, k4, k5⟩ := okn
  apply G_X12_logs
  unfold V_X12_logs
  refine Lp_X12_logs_3_ind (fun x h => ∃ K : Im, h = (K, r) ∧ 0 ≤ x ∧ x ≤ 19 ∧ Ex (fun a q => a = 370 ∧ ((63 + x < q ∧ q ≤ 82) ∨ (83 + x < q ∧ q ≤ 102))) I K ∧ (∀ q : Int, x < q → q ≤ 19 → K 370 (63 + q) = I 370 (63 + q - 1) ∧ K 370 (83 + q) = I 370 (83 + q - 1))) (fun x _ => x.toNat) ?_ _ _ ⟨I, rfl, by omega, by omega, Ex.refl I, fun q q1 q2 => absurd q2 (by omega)⟩
  intro P x h hI ih
  obtain ⟨K, rfl, x0, x1, xK, hK⟩ := hI
  unfold BLp_X12_logs_3
  refine ⟨fun c => ?_, fun c => ?_⟩
  · have hx : x = 0 := by omega
    subst hx
    have a0 : K 370 0 = (sNw S).1.length := by rw [xK 370 0 (by omega), n1]
    have a2 : K 370 2 = (sNw S).2.2.length := by rw [xK 370 2 (by omega), n3]
    have a1 : K 370 1 = (sNw S).2.1 := by rw [xK 370 1 (by omega), n2]
    have b0 : upI K 370 63 kind 370 0 = (sNw S).1.length := by rw [upI_ne (by omega), a0]
    have b2 : upI (upI K 370 63 kind) 370 83 (sNw S).1.length 370 2 = (sNw S).2.2.length := by rw [upI_ne (by omega), upI_ne (by omega), a2]
    simp only [hK_p, hL_p, hI_p, hR_p, wI_p, cpI_p, hN_p, forall_eq, true_and, and_true, ne_eq, not_true_eq_false, not_false_eq_true, true_implies, false_implies, imp_false, implies_true, if_true, if_false, reduceCtorEq, m', b0, b2]
    have fin : ∀ d : Int, ((sNw S).2.2.length : Int) + d = min (((sNw S).2.2.length : Int) + 1) 20 → (0 ≤ d ∧ d ≤ 1) → J_X12_logs_97 363 d (sNw S).2.2.length 2 370 (upI (upI K 370 63 kind) 370 83 (sNw S).1.length, r) Q := by
      intro d hd hd2
      unfold J_X12_logs_97
      simp only [hK_p, hL_p, hI_p, hR_p, wI_p, cpI_p, hN_p, forall_eq, true_and, and_true, ne_eq, not_true_eq_false, not_false_eq_true, true_implies, false_implies, imp_false, implies_true, if_true, if_false, reduceCtorEq, m']
      have b1 : upI (upI (upI K 370 63 kind) 370 83 (sNw S).1.length) 370 2 ((sNw S).2.2.length + d) 370 1 = (sNw S).2.1 := by rw [upI_ne (by omega), upI_ne (by omega), upI_ne (by omega), a1]
      rw [b1]
      refine ⟨⟨by omega, by omega⟩, ⟨by omega, by omega⟩, ⟨by omega, by omega⟩, ⟨by omega, by omega⟩, ⟨by omega, by omega⟩, ?_⟩
      generalize hL : upI (upI (upI (upI K 370 63 kind) 370 83 (sNw S).1.length) 370 2 ((sNw S).2.2.length + d)) 370 1 ((sNw S).2.1 + 1) = L
      have exL : Ex (fun a _ => a = 370) K L := fun a q hq => by rw [← hL, upI_ne (by omega), upI_ne (by omega), upI_ne (by omega), upI_ne (by omega)]
      have hwL : rw_ L xs := ⟨by rw [exL _ _ (by omega), xK _ _ (by omega)]; exact hw.1, hw.2.congr (fun q _ _ => by rw [exL _ _ (by omega), xK _ _ (by omega)])⟩
      refine m_become m hwL hl (fun Z z0 z1 xZ => ?_)
      have exZ : Ex (fun a _ => a = 370) I Z := fun a q hq => by rw [xZ a q (by omega), exL a q hq, xK a q (by omega)]
      refine k Z (hR.now (exZ.mono (fun a q h => Or.inl h)) ?_) (by rw [exZ _ _ (by omega)]; exact hw.1) exZ
      refine ⟨z0, ?_, ?_, z1, ?_, ?_⟩
      · show Z 370 (0 + 1) = (sNw S).2.1 + 1
        rw [show (0 : Int) + 1 = 1 by omega, xZ _ _ (by omega), ← hL, upI_self]
      · show Z 370 (0 + 2) = ((((kind, ((sNw S).1.length : Int)) :: (sNw S).2.2).take 20).length : Int)
        rw [show (0 : Int) + 2 = 2 by omega, xZ _ _ (by omega), ← hL, upI_ne (by omega), upI_self, List.length_take, List.length_cons]
        omega
      · rw [List.map_take]
        refine log_seg (f := I 370) (by rw [show (0 : Int) + 63 = 63 by omega]; exact n5) (by rw [List.length_map]; omega) ?_ (fun q q0 q1 => ?_)
        · rw [show (0 : Int) + 63 = 63 by omega, xZ _ _ (by omega), ← hL, upI_ne (by omega), upI_ne (by omega), upI_ne (by omega), upI_self]
        · rw [show (0 : Int) + 63 = 63 by omega, xZ _ _ (by omega), ← hL, upI_ne (by omega), upI_ne (by omega), upI_ne (by omega), upI_ne (by omega), (hK q (by omega) q1).1]
      · rw [List.map_take]
        refine log_seg (f := I 370) (by rw [show (0 : Int) + 83 = 83 by omega]; exact n6) (by rw [List.length_map]; omega) ?_ (fun q q0 q1 => ?_)
        · rw [show (0 : Int) + 83 = 83 by omega, xZ _ _ (by omega), ← hL, upI_ne (by omega), upI_ne (by omega), upI_self]
        · rw [show (0 : Int) + 83 = 83 by omega, xZ _ _ (by omega), ← hL, upI_ne (by omega), upI_ne (by omega), upI_ne (by omega), upI_ne (by omega), (hK q (by omega) q1).2]
    refine ⟨⟨by omega, by omega⟩, ⟨by omega, by omega⟩, ⟨by omega, by omega⟩, ⟨by omega, by omega⟩, ⟨by omega, by omega⟩, fun c2 => fin 0 (by omega) (by omega), fun c2 => fin 1 (by omega) (by omega)⟩
  · simp only [hK_p, hL_p, hI_p, hR_p, wI_p, cpI_p, hN_p, forall_eq, true_and, and_true, ne_eq, not_true_eq_false, not_false_eq_true, true_implies, false_implies, imp_false, implies_true, if_true, if_false, reduceCtorEq, m']
    refine ⟨⟨by omega, by omega⟩, ⟨by omega, by omega⟩, ⟨by omega, by omega⟩, ⟨by omega, by omega⟩, ⟨by omega, by omega⟩, ⟨by omega, by omega⟩, ⟨by omega, by omega⟩, ⟨by omega, by omega⟩, ⟨by omega, by omega⟩, ⟨by omega, by omega⟩, ⟨by omega, by omega⟩, ?_⟩
    refine ih _ _ ⟨_, rfl, by omega, by omega, fun a q hq => ?_, fun q q0 q1 => ?_⟩ (by omega)
    · rw [upI_ne (by omega), upI_ne (by omega), xK a q (by omega)]
    · by_cases hq : q = x
      · subst hq
        rw [upI_ne (by omega), upI_self, upI_self, upI_ne (by omega), xK _ _ (by omega), xK _ _ (by omega)]
        exact ⟨rfl, rfl⟩
      · obtain ⟨y1, y2⟩ := hK q (by omega) q1
        rw [upI_ne (by omega), upI_ne (by omega), upI_ne (by omega), upI_ne (by omega)]
        exact ⟨y1, y2⟩
theorem m_read {S : St} {I : Im} {r : Rs} {kind : Int} {Q : Int → Hp → Prop} (m : Mst r) (hR : Rm S I) (w : WF S) (k : ∀ I', Rm (oRead S kind).2 I' → Ex aM I I' → Q (oRead S kind).1 (I', r)) : C_X12_read 363 kind (I, r) Q := by
  have m' := m
  unfold Mst at m'
  have okn : NSok (sNw S) := w.2.2.2.2.1
  have hl60 := okn.1
  apply G_X12_read
  unfold V_X12_read
  unfold oRead at k
  refine m_is (fun c => ⟨fun _ => ⟨m.1, ?_⟩, fun z => absurd z (by decide)⟩) (fun c => ⟨fun z => absurd rfl z, fun _ => ?_⟩)
  · rw [if_pos c] at k
    refine m_begin m hR.2.2.2.2.1 okn (fun J hJ xJ => ⟨m.1, ?_⟩)
    refine m_reads m hJ okn.2.1 (by omega) (fun K hK xK => ?_)
    have exK : Ex aSc I K := (xJ.trans xK (C := aSc) (fun a q h => by omega) (fun a q h => by omega))
    have hRK := hR.kept exK
    have a1 : K 370 1 = (sNw S).2.1 := hRK.2.2.2.2.1.2.1
    simp only [hK_p, hL_p, hI_p, hR_p, wI_p, cpI_p, hN_p, forall_eq, true_and, and_true, ne_eq, not_true_eq_false, not_false_eq_true, true_implies, false_implies, imp_false, implies_true, if_true, if_false, reduceCtorEq, m', hK.1, a1]
    refine ⟨fun c2 => ?_, fun c2 => ⟨⟨by omega, by omega⟩, fun c3 => ?_, fun c3 => ?_⟩⟩
    · rw [if_pos (Or.inl (by omega))] at k
      exact k K hRK (exK.mono (fun a q h => by omega))
    · rw [if_neg (by omega)] at k
      refine m_note m hRK w (fun L hL xL => ⟨m.1, ?_⟩)
      have hwL : rw_ L (sayL kind (sNw S).1) := ⟨by rw [xL _ _ (by omega)]; exact hK.1, hK.2.congr (fun q _ _ => xL _ _ (by omega))⟩
      refine m_logs m hL okn hwL (by omega) (fun Z hZ z29 xZ => ?_)
      simp only [hK_p, hL_p, hI_p, hR_p, wI_p, cpI_p, hN_p, forall_eq, true_and, and_true, ne_eq, not_true_eq_false, not_false_eq_true, true_implies, false_implies, imp_false, implies_true, if_true, if_false, reduceCtorEq, m', z29]
      exact k Z hZ (fun a q hq => by rw [xZ a q (by omega), xL a q (by omega), exK a q (by omega)])
    · rw [if_pos (Or.inr (by omega))] at k
      exact k K hRK (exK.mono (fun a q h => by omega))
  · rw [if_neg c] at k
    exact k I hR (Ex.refl I)
