/-! MODEL, part 15: which word to ask about -/
def tbl (J : Im) (n : Nat) (w : List Int) : Prop := ∀ i : Nat, i < n → J 388 i = (sayL i w).length ∧ Seg (J 387) (20 * i) (sayL i w)
theorem likeN_le (st : Nat) (w : List Int) (kd : Nat) : ∀ n, likeN st w kd n ≤ n
  | 0 => Nat.le_refl 0
  | n + 1 => by
    have := likeN_le st w kd n
    show likeN st w kd n + (if st.testBit n = true ∧ sayL n w = sayL kd w then 1 else 0) ≤ n + 1
    split <;> omega
theorem mostN_le (st : Nat) (w : List Int) : ∀ n, mostN st w n ≤ 6
  | 0 => by show 0 ≤ 6; omega
  | n + 1 => by
    have := mostN_le st w n
    have := likeN_le st w n 6
    show (if st.testBit n = true then max (mostN st w n) (likeN st w n 6) else mostN st w n) ≤ 6
    split <;> omega
theorem bits_le (st : Nat) : ∀ n, bits st n ≤ n
  | 0 => Nat.le_refl 0
  | n + 1 => by
    have := bits_le st n
    show bits st n + (if st.testBit n = true then 1 else 0) ≤ n + 1
    split <;> omega
theorem m_alike {I : Im} {r : Rs} {st kd : Nat} {w : List Int} {Q : Int → Hp → Prop} (m : Mst r) (hst : st < 64) (hk : kd < 6) (hw : w.length ≤ 8) (ht : tbl I 6 w) (k : Q (likeN st w kd 6 : Nat) (I, r)) : C_X12_alikeOnes 363 st kd (I, r) Q := by
  have m' := m
  unfold Mst at m'
  apply G_X12_alikeOnes
  unfold V_X12_alikeOnes
  refine Lp_X12_alikeOnes_5_ind (fun x3 x4 h => ∃ u : Nat, x4 = u ∧ u ≤ 6 ∧ h = (I, r) ∧ x3 = (likeN st w kd u : Nat)) (fun _ x4 _ => 6 - x4.toNat) ?_ _ _ _ ⟨0, rfl, by omega, rfl, rfl⟩
  intro P x3 x4 h hI ih
  obtain ⟨u, rfl, u1, rfl, rfl⟩ := hI
  unfold BLp_X12_alikeOnes_5
  refine ⟨fun c => ?_, fun c => ?_⟩
  · have hu : u = 6 := by omega
    subst hu
    exact k
  have hu : u < 6 := by omega
  obtain ⟨a1, a2⟩ := ht u hu
  obtain ⟨b1, b2⟩ := ht kd hk
  have l1 := sayL_len u w
  have l2 := sayL_len kd w
  have lk := likeN_le st w kd u
  have step : likeN st w kd (u + 1) = likeN st w kd u + (if st.testBit u = true ∧ sayL u w = sayL kd w then 1 else 0) := rfl
  generalize likeN st w kd u = lk0 at *
  generalize sayL u w = ys at *
  generalize sayL kd w = xs at *
  have j104 : ∀ b : Int, ((b = 1 ∧ (st.testBit u = true ∧ ys = xs)) ∨ (b = 0 ∧ ¬ (st.testBit u = true ∧ ys = xs))) → J_X12_alikeOnes_104 P 363 st kd lk0 u b (I, r) Q := by
    intro b hb
    unfold J_X12_alikeOnes_104
    simp only [hK_p, hL_p, hI_p, hR_p, wI_p, cpI_p, hN_p, forall_eq, true_and, and_true, ne_eq, not_true_eq_false, not_false_eq_true, true_implies, false_implies, imp_false, implies_true, if_true, if_false, reduceCtorEq]
    refine ⟨fun c3 => ⟨⟨by omega, by omega⟩, ⟨by omega, by omega⟩, ih _ _ _ ⟨u + 1, by omega, by omega, rfl, ?_⟩ (by omega)⟩, fun c3 => ⟨⟨by omega, by omega⟩, ⟨by omega, by omega⟩, ih _ _ _ ⟨u + 1, by omega, by omega, rfl, ?_⟩ (by omega)⟩⟩
    · rcases hb with ⟨z1, z2⟩ | ⟨z1, z2⟩
      · omega
      · rw [step, if_neg z2]; omega
    · rcases hb with ⟨z1, z2⟩ | ⟨z1, z2⟩
      · rw [step, if_pos z2]; omega
      · exact absurd z1 c3
  have lp : ∀ b : Int, ((b = 1 ∧ st.testBit u = true ∧ ys.length = xs.length) ∨ (b = 0 ∧ ¬ (st.testBit u = true ∧ ys = xs))) → Lp_X12_alikeOnes_47 P 363 st kd lk0 u b 0 (I, r) Q := by
    intro b hb
    refine Lp_X12_alikeOnes_47_ind (fun x2 x3 h => ∃ t : Nat, x3 = t ∧ h = (I, r) ∧ t ≤ xs.length ∧ ((x2 = 1 ∧ st.testBit u = true ∧ ys.length = xs.length ∧ ∀ i : Nat, i < t → ys.getD i 0 = xs.getD i 0) ∨ (x2 = 0 ∧ ¬ (st.testBit u = true ∧ ys = xs)))) (fun x2 x3 _ => xs.length - x3.toNat) ?_ _ _ _ ⟨0, rfl, rfl, Nat.zero_le _, ?_⟩
    · intro P47 x2 x3 h hI ih2
      obtain ⟨t, rfl, rfl, t1, t2⟩ := hI
      unfold BLp_X12_alikeOnes_47
      simp only [hK_p, hL_p, hI_p, hR_p, wI_p, cpI_p, hN_p, forall_eq, true_and, and_true, ne_eq, not_true_eq_false, not_false_eq_true, true_implies, false_implies, imp_false, implies_true, if_true, if_false, reduceCtorEq, m', b1]
      have fin : (t = xs.length ∨ x2 = 0) → J_X12_alikeOnes_104 P 363 st kd lk0 u x2 (I, r) Q := by
        intro ht
        refine j104 x2 ?_
        rcases t2 with ⟨z1, z0, z2, z3⟩ | ⟨z1, z2⟩
        · exact Or.inl ⟨z1, z0, seg_eq z2 (fun i hi => z3 i (by omega))⟩
        · exact Or.inr ⟨z1, z2⟩
      refine ⟨⟨by omega, by omega⟩, fun c => fin (Or.inl (by omega)), fun c => ⟨fun c2 => fin (Or.inr c2), fun c2 => ?_⟩⟩
      have ht : t < xs.length := by omega
      rcases t2 with ⟨z1, z0, z2, z3⟩ | ⟨z1, z2⟩
      · have ra : I 387 (20 * (u : Int) + t) = ys.getD t 0 := a2.getD (k := t) (by omega) 0
        have rb : I 387 (20 * (kd : Int) + t) = xs.getD t 0 := b2.getD (k := t) (by omega) 0
        rw [ra, rb]
        refine ⟨⟨by omega, by omega⟩, ⟨by omega, by omega⟩, ⟨by omega, by omega⟩, ⟨by omega, by omega⟩, ⟨by omega, by omega⟩, ⟨by omega, by omega⟩, fun c3 => ⟨⟨by omega, by omega⟩, ih2 _ _ _ ⟨t + 1, by omega, rfl, by omega, Or.inr ⟨rfl, fun z => c3 (by rw [z.2])⟩⟩ (by omega)⟩, fun c3 => ⟨⟨by omega, by omega⟩, ih2 _ _ _ ⟨t + 1, by omega, rfl, by omega, Or.inl ⟨rfl, z0, z2, fun i hi => ?_⟩⟩ (by omega)⟩⟩
        rcases (show i < t ∨ i = t by omega) with h1 | h1
        · exact z3 i h1
        · rw [h1]; exact c3
      · exact absurd z1 c2
    · rcases hb with ⟨z1, z0, z2⟩ | ⟨z1, z2⟩
      · exact Or.inl ⟨z1, z0, z2, fun i hi => absurd hi (by omega)⟩
      · exact Or.inr ⟨z1, z2⟩
  refine m_has (by omega) (by omega) ?_
  by_cases ht : st.testBit u = true
  · rw [if_pos ht]
    refine ⟨fun z => absurd z (by decide), fun _ => ?_⟩
    simp only [hK_p, hL_p, hI_p, hR_p, wI_p, cpI_p, hN_p, forall_eq, true_and, and_true, ne_eq, not_true_eq_false, not_false_eq_true, true_implies, false_implies, imp_false, implies_true, if_true, if_false, reduceCtorEq, m', a1, b1]
    exact ⟨⟨by omega, by omega⟩, ⟨by omega, by omega⟩, fun c => lp 0 (Or.inr ⟨rfl, fun z => c (by rw [z.2])⟩), fun c => lp 1 (Or.inl ⟨rfl, ht, by omega⟩)⟩
  · rw [if_neg ht]
    exact ⟨fun _ => lp 0 (Or.inr ⟨rfl, fun z => ht z.1⟩), fun z => absurd rfl z⟩
theorem m_ask {S : St} {I : Im} {r : Rs} {Q : Int → Hp → Prop} (m : Mst r) (hR : Rm S I) (w : WF S) (k : ∀ I', Rm S I' → Ex aM I I' → Q (oAsk S) (I', r)) : C_X12_ask 363 (I, r) Q := by
  have m' := m
  unfold Mst at m'
  have hwl := w.2.2.2.1.1
  unfold oAsk at k
  have hst : couldB S < 64 := setOf_lt _ 6
  apply G_X12_ask
  unfold V_X12_ask
  refine ⟨m.1, m_couldBe m hR w (fun J0 hJ0 xJ0 => ?_)⟩
  generalize couldB S = st at *
  have xJ0 : Ex aSc I J0 := xJ0.mono (fun a q h => by omega)
  -- the words
  have lp42 : Lp_X12_ask_42 363 st (bits st 6 : Nat) (-1) 0 (J0, r) Q := by
    have b6 := bits_le st 6
    refine Lp_X12_ask_42_ind (fun x2 x3 x4 h => ∃ (i : Nat) (J : Im), x4 = i ∧ h = (J, r) ∧ i ≤ (sWl S).length ∧ Ex aSc I J ∧ (0 ≤ x2 ∧ x2 ≤ 6) ∧ askN st (-1) (bits st 6) 0 (sWl S) = askN st x3 x2 i ((sWl S).drop i)) (fun _ _ x4 _ => (sWl S).length - x4.toNat) ?_ _ _ _ _ ⟨0, J0, rfl, rfl, Nat.zero_le _, xJ0, ⟨by omega, by omega⟩, rfl⟩
    intro P few best x4 h hI ih
    obtain ⟨i, J, rfl, rfl, i1, i2, i3, i4⟩ := hI
    have hRJ := hR.kept i2
    have e11 : J 363 11 = (sWl S).length := hRJ.2.2.2.1.1
    unfold BLp_X12_ask_42
    simp only [hK_p, hL_p, hI_p, hR_p, wI_p, cpI_p, hN_p, forall_eq, true_and, and_true, ne_eq, not_true_eq_false, not_false_eq_true, true_implies, false_implies, imp_false, implies_true, if_true, if_false, reduceCtorEq, m', e11]
    refine ⟨fun c => ?_, fun c => ?_⟩
    · rw [List.drop_eq_nil_of_le (by omega)] at i4
      have k := k J hRJ (i2.mono (fun a q h => by omega))
      rw [i4] at k
      exact k
    have hi : i < (sWl S).length := by omega
    have wv : (0 : Int) ≤ (i : Int) ∧ (i : Int) ≤ (sWl S).length - 1 := by omega
    have okw := wl_ok w.2.2.2.1 wv
    have hwd : wd S (i : Int) = (sWl S)[i] := by
      unfold wd
      rw [Int.toNat_natCast, List.getD_eq_getElem?_getD, List.getElem?_eq_getElem hi]; rfl
    rw [show (sWl S).getD (i : Int).toNat [] = wd S i from rfl] at okw
    rw [List.drop_eq_getElem_cons hi, ← hwd] at i4
    have ea : askN st best few i (wd S i :: (sWl S).drop (i + 1)) = if (mostN st (wd S i) 6 : Int) < few then askN st i (mostN st (wd S i) 6) ((i : Int) + 1) ((sWl S).drop (i + 1)) else askN st best few ((i : Int) + 1) ((sWl S).drop (i + 1)) := rfl
    rw [ea] at i4
    have lp113 : ∀ K : Im, Ex aSc I K → tbl K 6 (wd S i) → Lp_X12_ask_113 P 363 st few best i 0 0 (K, r) Q := by
      intro K hK hT
      refine Lp_X12_ask_113_ind (fun x5 x6 h => ∃ u : Nat, x6 = u ∧ h = (K, r) ∧ u ≤ 6 ∧ x5 = (mostN st (wd S i) u : Nat)) (fun _ x6 _ => 6 - x6.toNat) ?_ _ _ _ ⟨0, rfl, rfl, by omega, rfl⟩
      intro P113 x5 x6 h hI ih2
      obtain ⟨u, rfl, rfl, u1, rfl⟩ := hI
      have ml := mostN_le st (wd S i) u
      unfold BLp_X12_ask_113
      refine ⟨fun c2 => ?_, fun c2 => ?_⟩
      · have hu : u = 6 := by omega
        subst hu
        generalize mostN st (wd S i) 6 = mo at *
        unfold J_X12_ask_176
        have nx : ∀ (b f : Int), (0 ≤ f ∧ f ≤ 6) → askN st (-1) (bits st 6) 0 (sWl S) = askN st b f ((i : Int) + 1) ((sWl S).drop (i + 1)) → P f b ((i : Int) + 1) (K, r) := fun b f hf he => ih _ _ _ _ ⟨i + 1, K, by omega, rfl, by omega, hK, hf, by rw [he]; congr 1⟩ (by omega)
        refine ⟨fun c3 => ⟨fun c4 => ⟨⟨by omega, by omega⟩, nx _ _ (by omega) ?_⟩, fun c4 => absurd c3 c4⟩, fun c3 => ⟨fun c4 => absurd c4 c3, fun c4 => ⟨⟨by omega, by omega⟩, nx _ _ (by omega) ?_⟩⟩⟩
        · rw [if_neg (by omega)] at i4; exact i4
        · rw [if_pos (by omega)] at i4; exact i4
      · have hu : u < 6 := by omega
        have step : mostN st (wd S i) (u + 1) = if st.testBit u = true then max (mostN st (wd S i) u) (likeN st (wd S i) u 6) else mostN st (wd S i) u := rfl
        have j140 : ∀ y : Int, y ≤ 6 → (y > (mostN st (wd S i) u : Nat) → y = (mostN st (wd S i) (u + 1) : Nat)) → (y ≤ (mostN st (wd S i) u : Nat) → mostN st (wd S i) u = mostN st (wd S i) (u + 1)) → J_X12_ask_140 P113 363 st few best i (mostN st (wd S i) u : Nat) u y (K, r) Q := by
          intro y hy6 hy1 hy2
          unfold J_X12_ask_140
          refine ⟨fun c3 => ⟨⟨by omega, by omega⟩, ih2 _ _ _ ⟨u + 1, by omega, rfl, by omega, by rw [hy2 c3]⟩ (by omega)⟩, fun c3 => ⟨⟨by omega, by omega⟩, ih2 _ _ _ ⟨u + 1, by omega, rfl, by omega, hy1 (by omega)⟩ (by omega)⟩⟩
        refine m_has (by omega) (by omega) ?_
        by_cases hb : st.testBit u = true
        · rw [if_pos hb] at step ⊢
          refine ⟨fun z => absurd z (by decide), fun _ => ⟨m.1, m_alike m hst hu okw.2.1 hT ?_⟩⟩
          have ll := likeN_le st (wd S i) u 6
          exact j140 _ (by omega) (fun z => by rw [step]; omega) (fun z => by rw [step]; omega)
        · rw [if_neg hb] at step ⊢
          refine ⟨fun _ => ?_, fun z => absurd rfl z⟩
          exact j140 _ (by omega) (fun z => by omega) (fun z => by rw [step])
    refine Lp_X12_ask_54_ind (fun x5 h => ∃ (u : Nat) (K : Im), x5 = u ∧ h = (K, r) ∧ u ≤ 6 ∧ Ex aSc I K ∧ tbl K u (wd S i)) (fun x5 _ => 6 - x5.toNat) ?_ _ _ ⟨0, J, rfl, rfl, by omega, i2, fun j hj => absurd hj (by omega)⟩
    intro P54 x5 h hI ih3
    obtain ⟨u, K, rfl, rfl, u1, u2, u3⟩ := hI
    unfold BLp_X12_ask_54
    refine ⟨fun c2 => ?_, fun c2 => ?_⟩
    · have hu : u = 6 := by omega
      subst hu
      exact lp113 K u2 u3
    have hu : u < 6 := by omega
    refine ⟨m.1, m_readWord m (hR.kept u2) w wv (fun L hL xL => ?_)⟩
    have sl := sayL_len u (wd S i)
    generalize hys : sayL u (wd S i) = ys at *
    have f0 : upI L 388 (u : Int) (ys.length : Int) 363 29 = ys.length := by rw [upI_ne (by omega), hL.1]
    simp only [hK_p, hL_p, hI_p, hR_p, wI_p, cpI_p, hN_p, forall_eq, true_and, and_true, ne_eq, not_true_eq_false, not_false_eq_true, true_implies, false_implies, imp_false, implies_true, if_true, if_false, reduceCtorEq, m', hL.1, f0]
    refine ⟨⟨by omega, by omega⟩, ⟨by omega, by omega⟩, ?_⟩
    refine m_bring (by simp only [m']) (by simp only [m']) (by omega) (by simp only [m']; omega) (by omega) (by simp only [m']; omega) (by omega) (by simp only [m']; omega) (by simp only [m']; omega) (Or.inl (by omega)) ?_
    refine ⟨⟨by omega, by omega⟩, ih3 _ _ ⟨u + 1, _, by omega, rfl, by omega, fun a q hq => ?_, fun j hj => ?_⟩ (by omega)⟩
    · rw [cpy_at, if_neg (by omega), upI_ne (by omega), xL a q (by omega), u2 a q hq]
    · rcases (show j < u ∨ j = u by omega) with h1 | h1
      · obtain ⟨g1, g2⟩ := u3 j h1
        have sl2 := sayL_len j (wd S i)
        refine ⟨by rw [cpy_at, if_neg (by omega), upI_ne (by omega), xL _ _ (by omega), g1], g2.congr (fun q q0 q1 => ?_)⟩
        rw [cpy_at, if_neg (by omega), upI_ne (by omega), xL _ _ (by omega)]
      · subst h1
        rw [hys]
        refine ⟨by rw [cpy_at, if_neg (by omega), upI_self], hL.2.shift (fun q q0 q1 => ?_)⟩
        rw [cpy_at, if_pos (by omega), upI_ne (by omega)]
        congr 1
        omega
  refine Lp_X12_ask_9_ind (fun x2 x3 h => ∃ u : Nat, x3 = u ∧ h = (J0, r) ∧ u ≤ 6 ∧ x2 = (bits st u : Nat)) (fun _ x3 _ => 6 - x3.toNat) ?_ _ _ _ ⟨0, rfl, rfl, by omega, rfl⟩
  intro P x2 x3 h hI ih
  obtain ⟨u, rfl, rfl, u1, rfl⟩ := hI
  have bl := bits_le st u
  unfold BLp_X12_ask_9
  refine ⟨fun c => ?_, fun c => ?_⟩
  · have hu : u = 6 := by omega
    subst hu
    exact lp42
  have step : bits st (u + 1) = bits st u + (if st.testBit u = true then 1 else 0) := rfl
  refine m_has (by omega) (by omega) ?_
  simp only [hK_p, hL_p, hI_p, hR_p, wI_p, cpI_p, hN_p, forall_eq, true_and, and_true, ne_eq, not_true_eq_false, not_false_eq_true, true_implies, false_implies, imp_false, implies_true, if_true, if_false, reduceCtorEq]
  by_cases hb : st.testBit u = true
  · rw [if_pos hb] at step ⊢
    exact ⟨fun z => absurd z (by decide), fun _ => ⟨⟨by omega, by omega⟩, ⟨by omega, by omega⟩, ih _ _ _ ⟨u + 1, by omega, rfl, by omega, by omega⟩ (by omega)⟩⟩
  · rw [if_neg hb] at step ⊢
    exact ⟨fun _ => ⟨⟨by omega, by omega⟩, ⟨by omega, by omega⟩, ih _ _ _ ⟨u + 1, by omega, rfl, by omega, by omega⟩ (by omega)⟩, fun z => absurd rfl z⟩
