/-! MODEL, part 16: where a row falls apart -/
def pts (I : Im) (xs : List Int) : Prop := I 363 33 = xs.length ∧ Seg (I 382) 0 xs
abbrev aPt : Nat → Int → Prop := fun a k => aRd a k ∨ a = 382 ∨ (a = 363 ∧ k = 33)
theorem seg_app {f : Int → Int} {off : Int} {xs ys : List Int} (h1 : Seg f off xs) (h2 : Seg f (off + xs.length) ys) : Seg f off (xs ++ ys) := by
  intro k v hk
  rw [List.getElem?_append] at hk
  split at hk
  · exact h1 k v hk
  · rw [← h2 (k - xs.length) v hk]; congr 1; omega
theorem seg_sub {f : Int → Int} {off : Int} {xs : List Int} (h : Seg f off xs) (p n : Nat) : Seg f (off + p) ((xs.drop p).take n) := by
  intro k v hk
  rw [List.getElem?_take] at hk
  split at hk
  · rw [List.getElem?_drop] at hk
    rw [← h (p + k) v hk]; congr 1; omega
  · cases hk
theorem m_addPart {n : NS} {I : Im} {r : Rs} {p q t : Nat} {xs : List Int} {Q : Hp → Prop} (m : Mst r) (hn : NSm (I 370) 0 n) (ok : NSok n) (hp : p ≤ q) (hq : q ≤ n.1.length) (ht : t ≤ 6) (hx : pts I xs) (hxl : xs.length ≤ 3840) (k : ∀ I', pts I' (xs ++ sayN 0 ((n.1.drop p).take (q - p)) t) → Ex aPt I I' → Q (I', r)) : C_X12_addPart 363 p q t (I, r) Q := by
  have m' := m
  unfold Mst at m'
  have hl := ok.1
  have hf : figs ((n.1.drop p).take (q - p)) := fun v hv => ok.2.1 v (List.mem_of_mem_drop (List.mem_of_mem_take hv))
  have hlen : ((n.1.drop p).take (q - p)).length = q - p := by simp; omega
  have sg := seg_sub hn.2.2.2.1 p (q - p)
  generalize (n.1.drop p).take (q - p) = ws at *
  have hqp : (q : Int) - p = ws.length := by omega
  apply G_X12_addPart
  unfold V_X12_addPart
  simp only [hK_p, hL_p, hI_p, hR_p, wI_p, cpI_p, hN_p, forall_eq, true_and, and_true, ne_eq, not_true_eq_false, not_false_eq_true, true_implies, false_implies, imp_false, implies_true, if_true, if_false, reduceCtorEq, m', upI_self, hqp]
  refine ⟨⟨by omega, by omega⟩, ⟨by omega, by omega⟩, ?_⟩
  refine m_bring (by simp only [m']) (by simp only [m']) (by omega) (by simp only [m']; omega) (by omega) (by simp only [m']; omega) (by omega) (by simp only [m']; omega) (by simp only [m']; omega) (Or.inl (by omega)) ?_
  refine Lp_X12_addPart_29_ind (fun x h => ∃ (u : Nat) (K : Im), x = u ∧ h = (K, r) ∧ u ≤ t ∧ rw_ K (sayN 0 ws u) ∧ Ex aRd I K) (fun x _ => t - x.toNat) ?_ _ _ ⟨0, _, rfl, rfl, by omega, ⟨?_, ?_⟩, fun a z hz => ?_⟩
  · intro P x h hI ih
    obtain ⟨u, K, rfl, rfl, u1, u2, u3⟩ := hI
    unfold BLp_X12_addPart_29
    refine ⟨fun c => ?_, fun c => ⟨m.1, m_reads m u2 (sayN_fig 0 hf u) (sayN_7 0 (by omega) (by omega)) (fun L hL xL => ⟨⟨by omega, by omega⟩, ih _ _ ⟨u + 1, L, by omega, rfl, by omega, hL, u3.trans xL (fun _ _ z => z) (fun _ _ z => z)⟩ (by omega)⟩)⟩⟩
    have hu : u = t := by omega
    subst hu
    have sl := sayN_7 0 (xs := ws) (by omega) (show u ≤ 7 by omega)
    generalize sayN 0 ws u = ys at *
    have e33 : K 363 33 = xs.length := by rw [u3 _ _ (by omega), hx.1]
    have e382 : K 382 = I 382 := u3.row 382 (fun z => by omega)
    simp only [hK_p, hL_p, hI_p, hR_p, wI_p, cpI_p, hN_p, forall_eq, true_and, and_true, ne_eq, not_true_eq_false, not_false_eq_true, true_implies, false_implies, imp_false, implies_true, if_true, if_false, reduceCtorEq, m', e33, u2.1]
    refine m_bring (by simp only [m']) (by simp only [m']) (by omega) (by simp only [m']; omega) (by omega) (by simp only [m']; omega) (by omega) (by simp only [m']; omega) (by simp only [m']; omega) (Or.inl (by omega)) ?_
    have f1 : cpy K 380 0 382 (xs.length : Int) (ys.length : Int) 363 33 = xs.length := by rw [cpy_at, if_neg (by omega), e33]
    have f2 : cpy K 380 0 382 (xs.length : Int) (ys.length : Int) 363 29 = ys.length := by rw [cpy_at, if_neg (by omega), u2.1]
    simp only [hK_p, hL_p, hI_p, hR_p, wI_p, cpI_p, hN_p, forall_eq, true_and, and_true, ne_eq, not_true_eq_false, not_false_eq_true, true_implies, false_implies, imp_false, implies_true, if_true, if_false, reduceCtorEq, m', f1, f2]
    refine ⟨⟨by omega, by omega⟩, k _ ⟨?_, seg_app ?_ ?_⟩ (fun a z hz => ?_)⟩
    · rw [upI_self]; simp
    · refine hx.2.congr (fun z z0 z1 => ?_)
      rw [upI_ne (by omega), cpy_at, if_neg (by omega), e382]
    · refine u2.2.shift (fun z z0 z1 => ?_)
      rw [upI_ne (by omega), cpy_at, if_pos (by omega)]
      congr 1
      omega
    · rw [upI_ne (by omega), cpy_at, if_neg (by omega), u3 a z (by omega)]
  · rw [cpy_at, if_neg (by omega), upI_self]; rfl
  · refine sg.shift (fun z z0 z1 => ?_)
    rw [cpy_at, if_pos (by omega), upI_ne (by omega)]
    congr 1
    omega
  · rw [cpy_at, if_neg (by omega), upI_ne (by omega)]
theorem apN_no {row : List Int} {p n : Nat} (h : apN row p n = false) : ∀ d, apN row p (n + d) = false
  | 0 => h
  | d + 1 => by
    show (apN row p (n + d) && _) = false
    rw [apN_no h d, Bool.false_and]
theorem sayN_6 (kind : Int) {xs : List Int} (h : xs.length ≤ 60) {n : Nat} (hn : n ≤ 6) : (sayN kind xs n).length ≤ 3840 := by
  have h1 := sayN_len kind xs n
  have h2 : 2 ^ n ≤ 2 ^ 6 := Nat.pow_le_pow_right (by omega) hn
  have h3 : 2 ^ n * xs.length ≤ 2 ^ 6 * 60 := Nat.mul_le_mul h2 h
  omega
theorem m_isApart {n : NS} {I : Im} {r : Rs} {p : Nat} {Q : Int → Hp → Prop} (m : Mst r) (hn : NSm (I 370) 0 n) (ok : NSok n) (hp : p ≤ n.1.length) (k : ∀ I', Ex aPt I I' → Q (if apN n.1 p 6 = true then 1 else 0) (I', r)) : C_X12_isApart 363 p (I, r) Q := by
  have m' := m
  unfold Mst at m'
  have hl := ok.1
  apply G_X12_isApart
  unfold V_X12_isApart
  refine Lp_X12_isApart_4_ind (fun x2 x3 h => ∃ (u : Nat) (J : Im), x3 = ((u + 1 : Nat) : Int) ∧ u ≤ 6 ∧ h = (J, r) ∧ Ex aPt I J ∧ ((x2 = 1 ∧ apN n.1 p u = true) ∨ (x2 = 0 ∧ apN n.1 p 6 = false))) (fun _ x3 _ => 7 - x3.toNat) ?_ _ _ _ ⟨0, I, rfl, by omega, rfl, Ex.refl I, Or.inl ⟨rfl, rfl⟩⟩
  intro P x2 x3 h hI ih
  obtain ⟨u, J, rfl, u1, rfl, u2, u3⟩ := hI
  unfold BLp_X12_isApart_4
  have fin : (u = 6 ∨ x2 = 0) → (x2 = 0 ∨ x2 = 1) ∧ Q x2 (J, r) := by
    intro hu
    rcases u3 with ⟨z1, z2⟩ | ⟨z1, z2⟩
    · have hu6 : u = 6 := by omega
      subst hu6
      have k := k J u2
      rw [if_pos z2] at k
      rw [z1]; exact ⟨Or.inr rfl, k⟩
    · have k := k J u2
      rw [if_neg (by rw [z2]; decide)] at k
      rw [z1]; exact ⟨Or.inl rfl, k⟩
  refine ⟨fun c => fin (Or.inl (by omega)), fun c => ⟨fun c2 => fin (Or.inr c2), fun c2 => ?_⟩⟩
  rcases u3 with ⟨_, z2⟩ | ⟨z1, _⟩
  · simp only [hK_p, hL_p, hI_p, hR_p, wI_p, cpI_p, hN_p, forall_eq, true_and, and_true, ne_eq, not_true_eq_false, not_false_eq_true, true_implies, false_implies, imp_false, implies_true, if_true, if_false, reduceCtorEq, m', m.1]
    have j370 : J 370 = I 370 := u2.row 370 (fun z => by omega)
    have hnJ : NSm (upI J 363 33 0 370) 0 n := by
      rw [show upI J 363 33 0 370 = J 370 from funext fun z => upI_ne (by omega), j370]; exact hn
    refine m_addPart (p := 0) m hnJ ok (by omega) hp (by omega) (xs := []) ⟨by rw [upI_self]; rfl, Seg.nil _ _⟩ (by simp) (fun K hK xK => ?_)
    have k370 : K 370 = I 370 := by rw [xK.row 370 (fun z => by omega), ← j370]; exact funext fun z => upI_ne (by omega)
    have hnK : NSm (K 370) 0 n := by rw [k370]; exact hn
    have e0 : K 370 0 = n.1.length := hnK.1
    simp only [hK_p, hL_p, hI_p, hR_p, wI_p, cpI_p, hN_p, forall_eq, true_and, and_true, ne_eq, not_true_eq_false, not_false_eq_true, true_implies, false_implies, imp_false, implies_true, if_true, if_false, reduceCtorEq, m', m.1, e0]
    refine ⟨by omega, ?_⟩
    rw [List.nil_append, List.drop_zero, Nat.sub_zero] at hK
    have lA := sayN_6 0 (xs := n.1.take p) (by simp; omega) (show u + 1 ≤ 6 by omega)
    refine m_addPart m hnK ok hp (Nat.le_refl _) (by omega) hK lA (fun L hL xL => ?_)
    have l370 : L 370 = I 370 := by rw [xL.row 370 (fun z => by omega), k370]
    have hnL : NSm (L 370) 0 n := by rw [l370]; exact hn
    have lB := sayN_6 0 (xs := (n.1.drop p).take (n.1.length - p)) (by simp; omega) (show u + 1 ≤ 6 by omega)
    rw [List.take_of_length_le (show (n.1.drop p).length ≤ n.1.length - p by simp)] at hL lB
    have exL : Ex aPt I L := fun a z hz => by rw [xL a z hz, xK a z hz, upI_ne (by omega), u2 a z hz]
    refine ⟨m.1, m_readOn (t := u + 1) m hnL ok (by omega) (fun Z hZ xZ => ?_)⟩
    have exZ : Ex aPt I Z := exL.trans xZ (fun _ _ z => z) (fun _ _ z => Or.inl z)
    have lC := sayN_6 0 (xs := n.1) hl (show u + 1 ≤ 6 by omega)
    have z33 : Z 363 33 = (sayN 0 (n.1.take p) (u + 1) ++ sayN 0 (n.1.drop p) (u + 1)).length := by rw [xZ _ _ (by omega), hL.1]
    have z382 : Seg (Z 382) 0 (sayN 0 (n.1.take p) (u + 1) ++ sayN 0 (n.1.drop p) (u + 1)) := by rw [xZ.row 382 (fun z => by omega)]; exact hL.2
    have stp : apN n.1 p (u + 1) = decide (sayN 0 n.1 (u + 1) = sayN 0 (n.1.take p) (u + 1) ++ sayN 0 (n.1.drop p) (u + 1)) := by
      show (apN n.1 p u && decide _) = _
      rw [z2, Bool.true_and]
    have lAB : (sayN 0 (n.1.take p) (u + 1) ++ sayN 0 (n.1.drop p) (u + 1)).length ≤ 7680 := by rw [List.length_append]; omega
    generalize sayN 0 (n.1.take p) (u + 1) ++ sayN 0 (n.1.drop p) (u + 1) = xs at *
    generalize sayN 0 n.1 (u + 1) = ys at *
    have lp : ∀ b : Int, ((b = 1 ∧ ys.length = xs.length) ∨ (b = 0 ∧ ¬ ys = xs)) → Lp_X12_isApart_64 P 363 p ((u + 1 : Nat) : Int) b 0 (Z, r) Q := by
      intro b hb
      refine Lp_X12_isApart_64_ind (fun x2 x3 h => ∃ t : Nat, x3 = t ∧ h = (Z, r) ∧ t ≤ ys.length ∧ ((x2 = 1 ∧ ys.length = xs.length ∧ ∀ i : Nat, i < t → ys.getD i 0 = xs.getD i 0) ∨ (x2 = 0 ∧ ¬ ys = xs))) (fun x2 x3 _ => ys.length - x3.toNat) ?_ _ _ _ ⟨0, rfl, rfl, Nat.zero_le _, ?_⟩
      · intro P64 x2 x3 h hI ih2
        obtain ⟨t, rfl, rfl, t1, t2⟩ := hI
        unfold BLp_X12_isApart_64
        simp only [hK_p, hL_p, hI_p, hR_p, wI_p, cpI_p, hN_p, forall_eq, true_and, and_true, ne_eq, not_true_eq_false, not_false_eq_true, true_implies, false_implies, imp_false, implies_true, if_true, if_false, reduceCtorEq, m', hZ.1]
        have fin : (t = ys.length ∨ x2 = 0) → P x2 (((u + 1 : Nat) : Int) + 1) (Z, r) := by
          intro ht
          refine ih _ _ _ ⟨u + 1, Z, by omega, by omega, rfl, exZ, ?_⟩ (by omega)
          rcases t2 with ⟨z1, z2, z3⟩ | ⟨z1, z2⟩
          · exact Or.inl ⟨z1, by rw [stp, decide_eq_true (seg_eq z2 (fun i hi => z3 i (by omega)))]⟩
          · refine Or.inr ⟨z1, ?_⟩
            have := apN_no (show apN n.1 p (u + 1) = false by rw [stp, decide_eq_false z2]) (6 - (u + 1))
            rw [show u + 1 + (6 - (u + 1)) = 6 by omega] at this
            exact this
        refine ⟨fun c => ⟨⟨by omega, by omega⟩, fin (Or.inl (by omega))⟩, fun c => ⟨fun c2 => ⟨⟨by omega, by omega⟩, fin (Or.inr c2)⟩, fun c2 => ?_⟩⟩
        have ht : t < ys.length := by omega
        rcases t2 with ⟨z1, z2, z3⟩ | ⟨z1, z2⟩
        · have ra : Z 382 t = xs.getD t 0 := by have := z382.getD (k := t) (by omega) 0; rw [Int.zero_add] at this; exact this
          have rb : Z 380 t = ys.getD t 0 := by have := hZ.2.getD ht 0; rw [Int.zero_add] at this; exact this
          rw [ra, rb]
          refine ⟨⟨by omega, by omega⟩, ⟨by omega, by omega⟩, fun c3 => ⟨⟨by omega, by omega⟩, ih2 _ _ _ ⟨t + 1, by omega, rfl, by omega, Or.inr ⟨rfl, fun z => c3 (by rw [z])⟩⟩ (by omega)⟩, fun c3 => ⟨⟨by omega, by omega⟩, ih2 _ _ _ ⟨t + 1, by omega, rfl, by omega, Or.inl ⟨rfl, z2, fun i hi => ?_⟩⟩ (by omega)⟩⟩
          rcases (show i < t ∨ i = t by omega) with h1 | h1
          · exact z3 i h1
          · rw [h1]; exact c3
        · exact absurd z1 c2
      · rcases hb with ⟨z1, z2⟩ | ⟨z1, z2⟩
        · exact Or.inl ⟨z1, z2, fun i hi => absurd hi (by omega)⟩
        · exact Or.inr ⟨z1, z2⟩
    simp only [hK_p, hL_p, hI_p, hR_p, wI_p, cpI_p, hN_p, forall_eq, true_and, and_true, ne_eq, not_true_eq_false, not_false_eq_true, true_implies, false_implies, imp_false, implies_true, if_true, if_false, reduceCtorEq, m', m.1, hZ.1, z33]
    exact ⟨fun c => lp 0 (Or.inr ⟨rfl, fun z => c (by rw [z])⟩), fun c => lp 1 (Or.inl ⟨rfl, by omega⟩)⟩
  · exact absurd z1 c2
theorem apS_s (row : List Int) (p : Nat) : apS row (p + 1) = if apN row (p + 1) 6 = true then ((apS row p).1 + 1, (if (apS row p).2.1 = -1 then ((p + 1 : Nat) : Int) else (apS row p).2.1), ((p + 1 : Nat) : Int), max (apS row p).2.2.2 (((p + 1 : Nat) : Int) - (apS row p).2.2.1)) else apS row p := rfl
theorem apS_rng (row : List Int) : ∀ p : Nat, (0 ≤ (apS row p).1 ∧ (apS row p).1 ≤ p) ∧ (-1 ≤ (apS row p).2.1 ∧ (apS row p).2.1 ≤ p) ∧ (0 ≤ (apS row p).2.2.1 ∧ (apS row p).2.2.1 ≤ p) ∧ (0 ≤ (apS row p).2.2.2 ∧ (apS row p).2.2.2 ≤ p)
  | 0 => by show (0 ≤ (0 : Int) ∧ (0 : Int) ≤ 0) ∧ (-1 ≤ (-1 : Int) ∧ (-1 : Int) ≤ 0) ∧ (0 ≤ (0 : Int) ∧ (0 : Int) ≤ 0) ∧ 0 ≤ (0 : Int) ∧ (0 : Int) ≤ 0; omega
  | p + 1 => by
    obtain ⟨h1, h2, h3, h4⟩ := apS_rng row p
    rw [apS_s]
    split
    · dsimp only
      refine ⟨by omega, ?_, by omega, by omega⟩
      split <;> omega
    · omega
theorem m_apart {S : St} {I : Im} {r : Rs} {q : Int} {Q : Int → Hp → Prop} (m : Mst r) (hR : Rm S I) (w : WF S) (k : ∀ I', Rm S I' → Ex aM I I' → Q (oApart S q) (I', r)) : C_X12_apart 363 q (I, r) Q := by
  have m' := m
  unfold Mst at m'
  have ok := w.2.2.2.2.1
  have hl := ok.1
  apply G_X12_apart
  unfold V_X12_apart
  unfold oApart at k
  refine m_is (fun c => ⟨fun _ => ?_, fun z => absurd z (by decide)⟩) (fun c => ⟨fun z => absurd rfl z, fun _ => ?_⟩)
  · rw [if_pos c] at k
    refine Lp_X12_apart_25_ind (fun x2 x3 x4 x5 x6 h => ∃ (u : Nat) (J : Im), x6 = ((u + 1 : Nat) : Int) ∧ u ≤ (sNw S).1.length - 1 ∧ h = (J, r) ∧ Ex aPt I J ∧ (x2, x3, x4, x5) = apS (sNw S).1 u) (fun _ _ _ _ x6 _ => 61 - x6.toNat) ?_ _ _ _ _ _ _ ⟨0, I, rfl, by omega, rfl, Ex.refl I, rfl⟩
    intro P x2 x3 x4 x5 x6 h hI ih
    obtain ⟨u, J, rfl, u1, rfl, u2, u3⟩ := hI
    have hRJ : Rm S J := hR.kept (u2.mono (fun a q h => by omega))
    have e0 : J 370 0 = (sNw S).1.length := hRJ.2.2.2.2.1.1
    have rng := apS_rng (sNw S).1 u
    have stp := apS_s (sNw S).1 u
    rw [← u3] at rng stp
    dsimp only at rng stp
    unfold BLp_X12_apart_25
    simp only [hK_p, hL_p, hI_p, hR_p, wI_p, cpI_p, hN_p, forall_eq, true_and, and_true, ne_eq, not_true_eq_false, not_false_eq_true, true_implies, false_implies, imp_false, implies_true, if_true, if_false, reduceCtorEq, m', e0]
    refine ⟨by omega, fun c2 => ?_, fun c2 => ?_⟩
    · have hu : u = (sNw S).1.length - 1 := by omega
      have k := k J hRJ (u2.mono (fun a q h => by omega))
      rw [← hu, ← u3] at k
      dsimp only at k
      unfold J_X12_apart_120
      have fin : ∀ y : Int, y = max x5 ((sNw S).1.length - x4) → (q ≠ 0 → (q ≠ 1 → Q y (J, r)) ∧ (q = 1 → Q x3 (J, r))) ∧ (q = 0 → Q x2 (J, r)) := by
        intro y hy
        rw [← hy] at k
        refine ⟨fun c3 => ?_, fun c3 => by rw [if_pos c3] at k; exact k⟩
        rw [if_neg c3] at k
        exact ⟨fun c4 => by rw [if_neg c4] at k; exact k, fun c4 => by rw [if_pos c4] at k; exact k⟩
      exact ⟨by omega, ⟨by omega, by omega⟩, fun c3 => fin _ (by omega), fun c3 => ⟨by omega, ⟨by omega, by omega⟩, fin _ (by omega)⟩⟩
    · have hu : u + 1 ≤ (sNw S).1.length - 1 := by omega
      refine m_isApart m hRJ.2.2.2.2.1 ok (by omega) (fun K xK => ?_)
      have exK : Ex aPt I K := u2.trans xK (fun _ _ z => z) (fun _ _ z => z)
      by_cases hb : apN (sNw S).1 (u + 1) 6 = true
      · rw [if_pos hb] at stp ⊢
        refine ⟨fun z => absurd z (by decide), fun _ => ⟨⟨by omega, by omega⟩, ?_⟩⟩
        have j59 : ∀ y : Int, y = (if x3 = -1 then ((u + 1 : Nat) : Int) else x3) → J_X12_apart_59 P 363 q (x2 + 1) x4 x5 ((u + 1 : Nat) : Int) y (K, r) Q := by
          intro y hy
          rw [← hy] at stp
          unfold J_X12_apart_59
          simp only [hK_p, hL_p, hI_p, hR_p, wI_p, cpI_p, hN_p, forall_eq, true_and, and_true, ne_eq, not_true_eq_false, not_false_eq_true, true_implies, false_implies, imp_false, implies_true, if_true, if_false, reduceCtorEq]
          refine ⟨⟨by omega, by omega⟩, fun c3 => ⟨⟨by omega, by omega⟩, ih _ _ _ _ _ _ ⟨u + 1, K, by omega, hu, rfl, exK, ?_⟩ (by omega)⟩, fun c3 => ⟨⟨by omega, by omega⟩, ⟨by omega, by omega⟩, ih _ _ _ _ _ _ ⟨u + 1, K, by omega, hu, rfl, exK, ?_⟩ (by omega)⟩⟩
          · rw [stp, Int.max_eq_left c3]
          · rw [stp, Int.max_eq_right (by omega)]
        exact ⟨fun c3 => j59 _ (by rw [if_neg c3]), fun c3 => j59 _ (by rw [if_pos c3])⟩
      · rw [if_neg hb] at stp ⊢
        refine ⟨fun _ => ⟨⟨by omega, by omega⟩, ih _ _ _ _ _ _ ⟨u + 1, K, by omega, hu, rfl, exK, stp.symm⟩ (by omega)⟩, fun z => absurd rfl z⟩
  · rw [if_neg c] at k
    exact k I hR (Ex.refl I)
