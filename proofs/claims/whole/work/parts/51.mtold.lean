/-! MODEL, part 10: what is told -/
theorem seg0 {f : Int → Int} {xs : List Int} {o : Int} (h : Seg f o xs) {k : Nat} (hk : k < xs.length) : f (o + k) = xs[k] := h.get hk
theorem m_runs {n : NS} {I : Im} {r : Rs} {Q : Int → Hp → Prop} (m : Mst r) (hn : NSm (I 370) 0 n) (ok : NSok n) (k : Q (nRuns (-1) n.1) (I, r)) : C_X12_runs 363 (I, r) Q := by
  have m' := m
  unfold Mst at m'
  obtain ⟨row, rest⟩ := n
  have hl : row.length ≤ 60 := ok.1
  have hf : figs row := ok.2.1
  have e0 : I 370 0 = row.length := hn.1
  have e1 : Seg (I 370) 3 row := hn.2.2.2.1
  apply G_X12_runs
  unfold V_X12_runs
  refine Lp_X12_runs_4_ind (fun x1 x2 h => ∃ (t : Nat) (p : Int), x2 = t ∧ h = (I, r) ∧ t ≤ row.length ∧ nRuns (-1) row = x1 + nRuns p (row.drop t) ∧ (0 ≤ x1 ∧ x1 ≤ t) ∧ ((t = 0 ∧ p = -1) ∨ (0 < t ∧ row[t - 1]? = some p))) (fun x1 x2 _ => row.length - x2.toNat) ?_ _ _ _ ⟨0, -1, rfl, rfl, Nat.zero_le _, by simp, by omega, Or.inl ⟨rfl, rfl⟩⟩
  intro P x1 x2 h hI ih
  obtain ⟨t, p, rfl, rfl, t1, t2, t3, t4⟩ := hI
  unfold BLp_X12_runs_4
  simp only [hK_p, hL_p, hI_p, hR_p, wI_p, cpI_p, hN_p, forall_eq, true_and, and_true, ne_eq, not_true_eq_false, not_false_eq_true, true_implies, false_implies, imp_false, implies_true, if_true, if_false, reduceCtorEq, m', e0]
  refine ⟨⟨by omega, by omega⟩, fun c => ?_, fun c => ?_⟩
  · rw [List.drop_of_length_le (by omega)] at t2
    have e : nRuns p [] = 0 := rfl
    rw [e, Int.add_zero] at t2
    have k : Q (nRuns (-1) row) (I, r) := k
    rw [t2] at k
    exact k
  · have ht : t < row.length := by omega
    have fg := hf _ (List.getElem_mem ht)
    rw [List.drop_eq_getElem_cons ht] at t2
    have e : nRuns p (row[t] :: row.drop (t + 1)) = (if row[t] = p then 0 else 1) + nRuns row[t] (row.drop (t + 1)) := rfl
    rw [e] at t2
    have rt := e1.get ht
    have nxt : ∀ d : Int, d = (if row[t] = p then 0 else 1) → P (x1 + d) ((t : Int) + 1) (I, r) := by
      intro d hd
      have hd2 : 0 ≤ d ∧ d ≤ 1 := by rw [hd]; split <;> omega
      exact ih _ _ _ ⟨t + 1, row[t], by omega, rfl, by omega, by rw [t2, ← hd]; omega, by omega, Or.inr ⟨by omega, by simp⟩⟩ (by omega)
    rcases t4 with ⟨z1, z2⟩ | ⟨z1, z2⟩
    · subst z1
      subst z2
      refine ⟨fun c2 => ⟨⟨by omega, by omega⟩, ⟨by omega, by omega⟩, ?_⟩, fun c2 => absurd (by omega) c2⟩
      exact nxt 1 (by rw [if_neg (by omega)])
    · have rp : I 370 (3 + (t : Int) - 1) = p := by
        have := e1 _ _ z2
        rw [← this]; congr 1; omega
      rw [rt, rp]
      refine ⟨fun c2 => absurd c2 (by omega), fun c2 => ⟨⟨by omega, by omega⟩, ⟨by omega, by omega⟩, ⟨by omega, by omega⟩, ⟨by omega, by omega⟩, ⟨by omega, by omega⟩, fun c3 => ⟨⟨by omega, by omega⟩, ⟨by omega, by omega⟩, ?_⟩, fun c3 => ⟨⟨by omega, by omega⟩, ⟨by omega, by omega⟩, ?_⟩⟩⟩
      · exact nxt 0 (by rw [if_pos c3])
      · exact nxt 1 (by rw [if_neg c3])
theorem m_longest {n : NS} {I : Im} {r : Rs} {q : Int} {Q : Int → Hp → Prop} (m : Mst r) (hn : NSm (I 370) 0 n) (ok : NSok n) (k : Q (if q = 7 then (lgS (-1) (-1) 0 (-1) n.1).1 else (lgS (-1) (-1) 0 (-1) n.1).2) (I, r)) : C_X12_longest 363 q (I, r) Q := by
  have m' := m
  unfold Mst at m'
  obtain ⟨row, rest⟩ := n
  have hl : row.length ≤ 60 := ok.1
  have hf : figs row := ok.2.1
  have e0 : I 370 0 = row.length := hn.1
  have e1 : Seg (I 370) 3 row := hn.2.2.2.1
  apply G_X12_longest
  unfold V_X12_longest
  refine Lp_X12_longest_10_ind (fun x2 x3 x4 x5 h => ∃ (t : Nat) (p : Int), x5 = t ∧ h = (I, r) ∧ t ≤ row.length ∧ lgS (-1) (-1) 0 (-1) row = lgS x2 x3 x4 p (row.drop t) ∧ (0 ≤ x4 ∧ x4 ≤ t) ∧ ((t = 0 ∧ p = -1) ∨ (0 < t ∧ row[t - 1]? = some p))) (fun x2 x3 x4 x5 _ => row.length - x5.toNat) ?_ _ _ _ _ _ ⟨0, -1, rfl, rfl, Nat.zero_le _, by simp, by omega, Or.inl ⟨rfl, rfl⟩⟩
  intro P x2 x3 x4 x5 h hI ih
  obtain ⟨t, p, rfl, rfl, t1, t2, t3, t4⟩ := hI
  unfold BLp_X12_longest_10
  simp only [hK_p, hL_p, hI_p, hR_p, wI_p, cpI_p, hN_p, forall_eq, true_and, and_true, ne_eq, not_true_eq_false, not_false_eq_true, true_implies, false_implies, imp_false, implies_true, if_true, if_false, reduceCtorEq, m', e0]
  refine ⟨⟨by omega, by omega⟩, fun c => ?_, fun c => ?_⟩
  · rw [List.drop_of_length_le (by omega)] at t2
    have e : lgS x2 x3 x4 p [] = (x2, x3) := rfl
    have k : Q (if q = 7 then (lgS (-1) (-1) 0 (-1) row).1 else (lgS (-1) (-1) 0 (-1) row).2) (I, r) := k
    rw [t2, e] at k
    refine ⟨fun c2 => ?_, fun c2 => ?_⟩
    · rw [if_neg c2] at k; exact k
    · rw [if_pos c2] at k; exact k
  · have ht : t < row.length := by omega
    have fg := hf _ (List.getElem_mem ht)
    rw [List.drop_eq_getElem_cons ht] at t2
    have e : lgS x2 x3 x4 p (row[t] :: row.drop (t + 1)) = if row[t] = p then (if x4 + 1 > x2 then lgS (x4 + 1) row[t] (x4 + 1) row[t] (row.drop (t + 1)) else lgS x2 x3 (x4 + 1) row[t] (row.drop (t + 1))) else (if 1 > x2 then lgS 1 row[t] 1 row[t] (row.drop (t + 1)) else lgS x2 x3 1 row[t] (row.drop (t + 1))) := rfl
    rw [e] at t2
    have rt := e1.get ht
    have j57 : ∀ y : Int, y = (if row[t] = p then x4 + 1 else 1) → J_X12_longest_57 P 363 q x2 x3 t y (I, r) Q := by
      intro y hy
      have hy2 : 0 ≤ y ∧ y ≤ t + 1 := by rw [hy]; split <;> omega
      have t5 : lgS (-1) (-1) 0 (-1) row = if y > x2 then lgS y row[t] y row[t] (row.drop (t + 1)) else lgS x2 x3 y row[t] (row.drop (t + 1)) := by
        rw [t2]
        by_cases hp : row[t] = p
        · rw [if_pos hp] at hy ⊢; rw [hy]
        · rw [if_neg hp] at hy ⊢; rw [hy]
      unfold J_X12_longest_57 J_X12_longest_78
      simp only [hK_p, hL_p, hI_p, hR_p, wI_p, cpI_p, hN_p, forall_eq, true_and, and_true, ne_eq, not_true_eq_false, not_false_eq_true, true_implies, false_implies, imp_false, implies_true, if_true, if_false, reduceCtorEq, m', rt]
      have nxt : ∀ b w, lgS (-1) (-1) 0 (-1) row = lgS b w y row[t] (row.drop (t + 1)) → P b w y ((t : Int) + 1) (I, r) := fun b w hb => ih _ _ _ _ _ ⟨t + 1, row[t], by omega, rfl, by omega, hb, by omega, Or.inr ⟨by omega, by simp⟩⟩ (by omega)
      refine ⟨fun c2 => ⟨fun c3 => ⟨⟨by omega, by omega⟩, nxt _ _ (by rw [t5, if_neg (by omega)])⟩, fun c3 => absurd c2 c3⟩, fun c2 => ⟨⟨by omega, by omega⟩, ⟨by omega, by omega⟩, fun c3 => absurd c3 c2, fun c3 => ⟨⟨by omega, by omega⟩, nxt _ _ (by rw [t5, if_pos (by omega)])⟩⟩⟩
    rcases t4 with ⟨z1, z2⟩ | ⟨z1, z2⟩
    · subst z1
      subst z2
      refine ⟨fun c2 => ?_, fun c2 => absurd (by omega) c2⟩
      unfold J_X12_longest_56
      exact j57 1 (by rw [if_neg (by omega)])
    · have rp : I 370 (3 + (t : Int) - 1) = p := by
        have := e1 _ _ z2
        rw [← this]; congr 1; omega
      rw [rt, rp]
      refine ⟨fun c2 => absurd c2 (by omega), fun c2 => ⟨⟨by omega, by omega⟩, ⟨by omega, by omega⟩, ⟨by omega, by omega⟩, ⟨by omega, by omega⟩, ⟨by omega, by omega⟩, fun c3 => ?_, fun c3 => ⟨⟨by omega, by omega⟩, ?_⟩⟩⟩
      · unfold J_X12_longest_56
        exact j57 1 (by rw [if_neg c3])
      · exact j57 (x4 + 1) (by rw [if_pos c3])
theorem cnt_snoc (f g : Int) (xs : List Int) : cnt f (xs ++ [g]) = cnt f xs + (if g = f then 1 else 0) := by
  rw [cnt_app]; simp [cnt]
theorem unlN_snoc (xs : List Int) (g : Nat) : ∀ n : Nat, unlN (xs ++ [(g : Int)]) n = unlN xs n + (if g < n ∧ ¬ 0 < cnt g xs then 1 else 0)
  | 0 => by simp [unlN]
  | n + 1 => by
    have h := unlN_snoc xs g n
    show unlN (xs ++ [(g : Int)]) n + (if 0 < cnt n (xs ++ [(g : Int)]) then 1 else 0) = unlN xs n + (if 0 < cnt n xs then 1 else 0) + _
    rw [h, cnt_snoc]
    by_cases c : g = n
    · subst c
      rw [if_neg (show ¬ (g < g ∧ ¬ 0 < cnt g xs) by omega), if_pos (show (g : Int) = g from rfl), if_pos (show 0 < cnt g xs + 1 by omega)]
      by_cases c2 : 0 < cnt g xs
      · rw [if_pos c2, if_neg (by omega)]; omega
      · rw [if_neg c2, if_pos (by omega)]
    · rw [if_neg (show ¬ (g : Int) = n by omega), Nat.add_zero]
      by_cases c2 : g < n ∧ ¬ 0 < cnt g xs
      · rw [if_pos c2, if_pos (show g < n + 1 ∧ ¬ 0 < cnt g xs by omega)]; omega
      · rw [if_neg c2, if_neg (show ¬ (g < n + 1 ∧ ¬ 0 < cnt g xs) by omega)]; omega
theorem setOf_or (p q : Nat → Bool) (g : Nat) (n : Nat) (hg : g < n) (h : ∀ f, q f = (p f || decide (f = g))) : setOf q n = setOf p n ||| 2 ^ g := by
  apply Nat.eq_of_testBit_eq
  intro f
  rw [setOf_bit, Nat.testBit_or, setOf_bit, Nat.testBit_two_pow, h]
  by_cases c : f = g
  · subst c; simp [hg]
  · simp [c, Ne.symm c]
theorem m_unlike {n : NS} {I : Im} {r : Rs} {Q : Int → Hp → Prop} (m : Mst r) (hn : NSm (I 370) 0 n) (ok : NSok n) (k : Q (unlN n.1 10) (I, r)) : C_X12_unlikeOnes 363 (I, r) Q := by
  have m' := m
  unfold Mst at m'
  obtain ⟨row, rest⟩ := n
  have hl : row.length ≤ 60 := ok.1
  have hf : figs row := ok.2.1
  have e0 : I 370 0 = row.length := hn.1
  have e1 : Seg (I 370) 3 row := hn.2.2.2.1
  have ub : ∀ (xs : List Int) (t : Nat), 0 ≤ unlN xs t ∧ unlN xs t ≤ t := by
    intro xs t
    induction t with
    | zero => simp [unlN]
    | succ t ih =>
      show 0 ≤ unlN xs t + (if 0 < cnt t xs then 1 else 0) ∧ unlN xs t + (if 0 < cnt t xs then 1 else 0) ≤ ((t + 1 : Nat) : Int)
      split <;> omega
  have un0 : ∀ t : Nat, unlN [] t = 0 := by
    intro t
    induction t with
    | zero => rfl
    | succ t ih =>
      show unlN [] t + (if 0 < cnt t [] then 1 else 0) = 0
      rw [ih]; rfl
  have s0 : ∀ t : Nat, setOf (fun f => decide (0 < cnt f [])) t = 0 := by
    intro t
    induction t with
    | zero => rfl
    | succ t ih =>
      show (if decide (0 < cnt t []) = true then _ else setOf (fun f => decide (0 < cnt f [])) t) = 0
      rw [if_neg (by simp [cnt]), ih]
  apply G_X12_unlikeOnes
  unfold V_X12_unlikeOnes
  refine Lp_X12_unlikeOnes_6_ind (fun x1 x2 x3 h => ∃ t : Nat, x3 = t ∧ h = (I, r) ∧ t ≤ row.length ∧ x1 = ((setOf (fun f => decide (0 < cnt f (row.take t))) 10 : Nat) : Int) ∧ x2 = unlN (row.take t) 10) (fun x1 x2 x3 _ => row.length - x3.toNat) ?_ _ _ _ _ ⟨0, rfl, rfl, Nat.zero_le _, by rw [List.take_zero, s0]; rfl, by rw [List.take_zero, un0]⟩
  intro P x1 x2 x3 h hI ih
  obtain ⟨t, rfl, rfl, t1, rfl, rfl⟩ := hI
  have slt := setOf_lt (fun f => decide (0 < cnt f (row.take t))) 10
  have ub1 := ub (row.take t) 10
  unfold BLp_X12_unlikeOnes_6
  simp only [hK_p, hL_p, hI_p, hR_p, wI_p, cpI_p, hN_p, forall_eq, true_and, and_true, ne_eq, not_true_eq_false, not_false_eq_true, true_implies, false_implies, imp_false, implies_true, if_true, if_false, reduceCtorEq, m', e0]
  refine ⟨⟨by omega, by omega⟩, fun c => ?_, fun c => ?_⟩
  · rw [List.take_of_length_le (by omega)]
    exact k
  · have ht : t < row.length := by omega
    have fg := hf _ (List.getElem_mem ht)
    obtain ⟨g, hg⟩ := Int.eq_ofNat_of_zero_le fg.1
    have rt := e1.get ht
    rw [hg] at rt
    rw [rt]
    refine ⟨⟨by omega, by omega⟩, ⟨by omega, by omega⟩, ?_⟩
    have et : row.take (t + 1) = row.take t ++ [(g : Int)] := by rw [List.take_succ_eq_append_getElem ht, hg]
    have hset : setOf (fun f => decide (0 < cnt f (row.take (t + 1)))) 10 = setOf (fun f => decide (0 < cnt f (row.take t))) 10 ||| 2 ^ g := by
      refine setOf_or _ _ g 10 (by omega) (fun f => ?_)
      rw [et, cnt_snoc]
      by_cases c3 : f = g
      · subst c3; simp
      · rw [if_neg (show ¬ (g : Int) = f by omega)]; simp [c3]
    have hul : unlN (row.take (t + 1)) 10 = unlN (row.take t) 10 + (if g < 10 ∧ ¬ 0 < cnt g (row.take t) then 1 else 0) := by rw [et, unlN_snoc]
    have j37 : ∀ d : Int, d = (if g < 10 ∧ ¬ 0 < cnt g (row.take t) then 1 else 0) → J_X12_unlikeOnes_37 P 363 ((setOf (fun f => decide (0 < cnt f (row.take t))) 10 : Nat) : Int) t d (unlN (row.take t) 10) (I, r) Q := by
      intro d hd
      have hd2 : 0 ≤ d ∧ d ≤ 1 := by rw [hd]; split <;> omega
      unfold J_X12_unlikeOnes_37
      simp only [hK_p, hL_p, hI_p, hR_p, wI_p, cpI_p, hN_p, forall_eq, true_and, and_true, ne_eq, not_true_eq_false, not_false_eq_true, true_implies, false_implies, imp_false, implies_true, if_true, if_false, reduceCtorEq, m', rt]
      have p9 : 2 ^ g ≤ 2 ^ 9 := Nat.pow_le_pow_right (by omega) (by omega)
      rw [zShl_1 (by omega), zOr_n (by omega) (by omega), ← hset]
      refine ⟨⟨by omega, by omega⟩, ⟨by omega, by omega⟩, ⟨by omega, by omega⟩, ⟨by omega, by omega⟩, ih _ _ _ _ ⟨t + 1, by omega, rfl, by omega, rfl, by rw [hul, hd]⟩ (by omega)⟩
    refine m_has (by omega) (by omega) ?_
    rw [setOf_bit]
    by_cases c3 : 0 < cnt g (row.take t)
    · rw [if_pos (by simp [c3]; omega)]
      exact ⟨fun z => absurd z (by decide), fun _ => j37 0 (by rw [if_neg (by omega)])⟩
    · rw [if_neg (by simp [c3])]
      exact ⟨fun _ => j37 1 (by rw [if_pos (by omega)]), fun z => absurd rfl z⟩
