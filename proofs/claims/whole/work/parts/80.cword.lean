/-! COMPONENT, part 10: words -/
theorem sumW_congr {f g : List Int → Nat} : ∀ {wl : List (List Int)}, (∀ w ∈ wl, f w = g w) → sumW f wl = sumW g wl
  | [], _ => rfl
  | w :: wl, h => by
    show f w + sumW f wl = g w + sumW g wl
    rw [h w (List.mem_cons_self ..), sumW_congr (fun v hv => h v (List.mem_cons_of_mem _ hv))]
theorem sumW_0 : ∀ wl : List (List Int), sumW (fun _ => 0) wl = 0
  | [] => rfl
  | w :: wl => by show 0 + sumW (fun _ => 0) wl = 0; rw [sumW_0 wl]
theorem sumW_add (f g : List Int → Nat) : ∀ wl : List (List Int), sumW (fun w => f w + g w) wl = sumW f wl + sumW g wl
  | [] => rfl
  | w :: wl => by
    show f w + g w + sumW (fun w => f w + g w) wl = f w + sumW f wl + (g w + sumW g wl)
    rw [sumW_add f g wl]; omega
theorem sumW_swap (g : List Int → List Int → Nat) (vl : List (List Int)) : ∀ wl : List (List Int), sumW (fun w => sumW (fun v => g w v) vl) wl = sumW (fun v => sumW (fun w => g w v) wl) vl
  | [] => by show 0 = sumW (fun _ => 0) vl; rw [sumW_0]
  | w :: wl => by
    show sumW (fun v => g w v) vl + sumW (fun w => sumW (fun v => g w v) vl) wl = sumW (fun v => g w v + sumW (fun w => g w v) wl) vl
    rw [sumW_swap g vl wl, sumW_add]
/-- ways to tell the d figures from p on, by their last word -/
def fw (wl : List (List Int)) (row : List Int) (p d : Nat) : Nat := if d = 0 then 1 else sumW (fun w => if h : 1 ≤ w.length ∧ w.length ≤ d ∧ stnd row (p + d - w.length) w = true then fw wl row p (d - w.length) else 0) wl
termination_by d
decreasing_by omega
theorem fw_0 (wl : List (List Int)) (row : List Int) (p : Nat) : fw wl row p 0 = 1 := by rw [fw, if_pos rfl]
theorem fw_s (wl : List (List Int)) (row : List Int) (p : Nat) {d : Nat} (hd : d ≠ 0) : fw wl row p d = sumW (fun w => if 1 ≤ w.length ∧ w.length ≤ d ∧ stnd row (p + d - w.length) w = true then fw wl row p (d - w.length) else 0) wl := by
  rw [fw, if_neg hd]
  apply sumW_congr
  intro w _
  by_cases c : 1 ≤ w.length ∧ w.length ≤ d ∧ stnd row (p + d - w.length) w = true
  · rw [dif_pos c, if_pos c]
  · rw [dif_neg c, if_neg c]
theorem sumW_z {f : List Int → Nat} {wl : List (List Int)} (h : ∀ w ∈ wl, f w = 0) : sumW f wl = 0 := by
  rw [sumW_congr h, sumW_0]
/-- the same, by their first word -/
theorem fw_first (wl : List (List Int)) (row : List Int) : ∀ (n d p : Nat), d ≤ n → d ≠ 0 → fw wl row p d = sumW (fun v => if 1 ≤ v.length ∧ v.length ≤ d ∧ stnd row p v = true then fw wl row (p + v.length) (d - v.length) else 0) wl := by
  intro n
  induction n with
  | zero => intro d p h1 h2; omega
  | succ n ih =>
    intro d p h1 h2
    rw [fw_s wl row p h2]
    -- both are split: a word that is all, and a first word and a last word
    have L : ∀ w ∈ wl, (if 1 ≤ w.length ∧ w.length ≤ d ∧ stnd row (p + d - w.length) w = true then fw wl row p (d - w.length) else 0) = (if w.length = d ∧ stnd row p w = true then 1 else 0) + sumW (fun v => if (1 ≤ w.length ∧ w.length < d ∧ stnd row (p + d - w.length) w = true) ∧ (1 ≤ v.length ∧ v.length ≤ d - w.length ∧ stnd row p v = true) then fw wl row (p + v.length) (d - w.length - v.length) else 0) wl := by
      intro w _
      by_cases e : w.length = d
      · have z : ∀ v, ¬ ((1 ≤ w.length ∧ w.length < d ∧ stnd row (p + d - w.length) w = true) ∧ (1 ≤ v.length ∧ v.length ≤ d - w.length ∧ stnd row p v = true)) := fun v h => by omega
        have e0 : sumW (fun v => if (1 ≤ w.length ∧ w.length < d ∧ stnd row (p + d - w.length) w = true) ∧ (1 ≤ v.length ∧ v.length ≤ d - w.length ∧ stnd row p v = true) then fw wl row (p + v.length) (d - w.length - v.length) else 0) wl = 0 := by
          exact sumW_z (fun v _ => if_neg (z v))
        rw [e0, show p + d - w.length = p by omega, show d - w.length = 0 by omega, fw_0]
        by_cases c : stnd row p w = true
        · rw [if_pos ⟨by omega, by omega, c⟩, if_pos ⟨e, c⟩]
        · rw [if_neg (fun h => c h.2.2), if_neg (fun h => c h.2)]
      · have z0 : (if w.length = d ∧ stnd row p w = true then 1 else 0) = 0 := if_neg (fun h => e h.1)
        rw [z0, Nat.zero_add]
        by_cases c : 1 ≤ w.length ∧ w.length < d ∧ stnd row (p + d - w.length) w = true
        · rw [if_pos ⟨c.1, by omega, c.2.2⟩, ih (d - w.length) p (by omega) (by omega)]
          apply sumW_congr
          intro v _
          by_cases c2 : 1 ≤ v.length ∧ v.length ≤ d - w.length ∧ stnd row p v = true
          · rw [if_pos c2, if_pos ⟨c, c2⟩]
          · rw [if_neg c2, if_neg (fun h => c2 h.2)]
        · have zz : (if 1 ≤ w.length ∧ w.length ≤ d ∧ stnd row (p + d - w.length) w = true then fw wl row p (d - w.length) else 0) = 0 := if_neg (fun h => c ⟨h.1, by omega, h.2.2⟩)
          rw [zz]
          exact (sumW_z (fun v _ => if_neg (fun h => c h.1))).symm
    have R : ∀ v ∈ wl, (if 1 ≤ v.length ∧ v.length ≤ d ∧ stnd row p v = true then fw wl row (p + v.length) (d - v.length) else 0) = (if v.length = d ∧ stnd row p v = true then 1 else 0) + sumW (fun w => if (1 ≤ w.length ∧ w.length < d ∧ stnd row (p + d - w.length) w = true) ∧ (1 ≤ v.length ∧ v.length ≤ d - w.length ∧ stnd row p v = true) then fw wl row (p + v.length) (d - w.length - v.length) else 0) wl := by
      intro v _
      by_cases e : v.length = d
      · have z : ∀ w : List Int, ¬ ((1 ≤ w.length ∧ w.length < d ∧ stnd row (p + d - w.length) w = true) ∧ (1 ≤ v.length ∧ v.length ≤ d - w.length ∧ stnd row p v = true)) := fun w h => by omega
        have e0 : sumW (fun w => if (1 ≤ w.length ∧ w.length < d ∧ stnd row (p + d - w.length) w = true) ∧ (1 ≤ v.length ∧ v.length ≤ d - w.length ∧ stnd row p v = true) then fw wl row (p + v.length) (d - w.length - v.length) else 0) wl = 0 := by
          exact sumW_z (fun w _ => if_neg (z w))
        rw [e0, show d - v.length = 0 by omega, fw_0]
        by_cases c : stnd row p v = true
        · rw [if_pos ⟨by omega, by omega, c⟩, if_pos ⟨e, c⟩]
        · rw [if_neg (fun h => c h.2.2), if_neg (fun h => c h.2)]
      · have z0 : (if v.length = d ∧ stnd row p v = true then 1 else 0) = 0 := if_neg (fun h => e h.1)
        rw [z0, Nat.zero_add]
        by_cases c : 1 ≤ v.length ∧ v.length ≤ d ∧ stnd row p v = true
        · rw [if_pos c, fw_s wl row (p + v.length) (show d - v.length ≠ 0 by omega)]
          apply sumW_congr
          intro w _
          by_cases c2 : 1 ≤ w.length ∧ w.length ≤ d - v.length ∧ stnd row (p + v.length + (d - v.length) - w.length) w = true
          · have e1 : p + v.length + (d - v.length) - w.length = p + d - w.length := by omega
            rw [if_pos c2]
            rw [e1] at c2
            rw [if_pos ⟨⟨c2.1, by omega, c2.2.2⟩, c.1, by omega, c.2.2⟩]
            congr 1
            omega
          · have e1 : p + v.length + (d - v.length) - w.length = p + d - w.length := by omega
            rw [if_neg c2]
            rw [e1] at c2
            rw [if_neg (fun h => c2 ⟨h.1.1, by omega, h.1.2.2⟩)]
        · rw [if_neg c]
          exact (sumW_z (fun w _ => if_neg (fun h => c ⟨h.2.1, by omega, h.2.2.2⟩))).symm
    rw [sumW_congr L, sumW_congr R, sumW_add, sumW_add, sumW_swap]
theorem stnd_len {row w : List Int} {p : Nat} (h : stnd row p w = true) : w.length ≤ row.length - p := by
  unfold stnd at h
  rw [decide_eq_true_eq] at h
  have := congrArg List.length h
  simp at this
  omega
theorem tt_fw {wl : List (List Int)} {row : List Int} (ok : ∀ w ∈ wl, 1 ≤ w.length) : ∀ (n r : Nat), r ≤ n → r ≤ row.length → tt wl row r = fw wl row (row.length - r) r := by
  intro n
  induction n with
  | zero =>
    intro r h1 h2
    have : r = 0 := by omega
    subst this
    rw [fw_0]; rfl
  | succ n ih =>
    intro r h1 h2
    cases r with
    | zero => rw [fw_0]; rfl
    | succ r =>
      rw [tt_s, fw_first wl row _ _ _ (Nat.le_refl _) (by omega)]
      apply sumW_congr
      intro w hw
      have hw1 := ok w hw
      by_cases c : stnd row (row.length - (r + 1)) w = true
      · have hl := stnd_len c
        rw [if_pos c, if_pos ⟨hw1, by omega, c⟩, tl_at wl row r _ (by omega), ih _ (by omega) (by omega)]
        congr 1 <;> omega
      · rw [if_neg c, if_neg (fun h => c h.2.2)]
theorem c_waysToEnd {I : Im} {r : Rs} {a b d e : Nat} {row : List Int} {wl : List (List Int)} {Q : Int → Hp → Prop} (s : sWL r a) (h : cWl I a wl) (ok : okWl wl) (s' : Fs r b d 60) (h' : fg I b d row) (he : 1 ≤ e ∧ e ≤ row.length) (hr : row.length ≤ 60) (hw : ∀ j : Nat, j < e → I (a + 2) j = min 1000000000 ((fw wl row 0 j : Nat) : Int)) (k : Q (min 1000000000 ((fw wl row 0 e : Nat) : Int)) (I, r)) : C_X10_waysToEnd a b e (I, r) Q := by
  obtain ⟨s1, ⟨s2, s3, s4⟩, ⟨s5, s6, s7⟩, _, s8⟩ := s
  obtain ⟨l1, l2⟩ := ok
  rw [fw_s wl row 0 (by omega)] at k
  apply G_X10_waysToEnd
  unfold V_X10_waysToEnd
  refine Lp_X10_waysToEnd_5_ind (fun x3 x4 h => ∃ u : Nat, x4 = u ∧ u ≤ wl.length ∧ h = (I, r) ∧ x3 = min 1000000000 ((sumW (fun w => if 1 ≤ w.length ∧ w.length ≤ e ∧ stnd row (0 + e - w.length) w = true then fw wl row 0 (e - w.length) else 0) (wl.take u) : Nat) : Int)) (fun _ x4 _ => wl.length - x4.toNat) ?_ _ _ _ ⟨0, rfl, Nat.zero_le _, rfl, rfl⟩
  intro P x3 x4 hh hI ih
  obtain ⟨u, rfl, u1, rfl, u2⟩ := hI
  unfold BLp_X10_waysToEnd_5
  simp only [hK_p, hL_p, hI_p, hR_p, wI_p, cpI_p, hN_p, forall_eq, true_and, and_true, ne_eq, not_true_eq_false, not_false_eq_true, true_implies, false_implies, imp_false, implies_true, if_true, if_false, reduceCtorEq, s1, s2, s3, s4, h.1]
  refine ⟨fun z => ?_, fun z => ?_⟩
  · have : u = wl.length := by omega
    rw [this, List.take_length] at u2
    rw [u2]; exact k
  · have hu : u < wl.length := by omega
    obtain ⟨t1, t2⟩ := s8 u (by omega)
    have hx : wl[u]? = some wl[u] := List.getElem?_eq_getElem hu
    have hg := h.2 u _ hx
    obtain ⟨o1, o2, _⟩ := l2 _ (List.getElem_mem hu)
    have stp : sumW (fun w => if 1 ≤ w.length ∧ w.length ≤ e ∧ stnd row (0 + e - w.length) w = true then fw wl row 0 (e - w.length) else 0) (wl.take (u + 1)) = sumW (fun w => if 1 ≤ w.length ∧ w.length ≤ e ∧ stnd row (0 + e - w.length) w = true then fw wl row 0 (e - w.length) else 0) (wl.take u) + (if 1 ≤ wl[u].length ∧ wl[u].length ≤ e ∧ stnd row (0 + e - wl[u].length) wl[u] = true then fw wl row 0 (e - wl[u].length) else 0) := by
      rw [List.take_succ_eq_append_getElem hu, sumW_app]; simp [sumW]
    generalize sumW (fun w => if 1 ≤ w.length ∧ w.length ≤ e ∧ stnd row (0 + e - w.length) w = true then fw wl row 0 (e - w.length) else 0) (wl.take u) = sm at *
    generalize wl[u] = wo at *
    simp only [t1, t2.1, hg.1]
    have nox : ¬ (wo.length ≤ e ∧ stnd row (e - wo.length) wo = true) → ((-2147483648 : Int) ≤ (u : Int) + 1 ∧ (u : Int) + 1 ≤ 2147483647) ∧ P x3 ((u : Int) + 1) (I, r) := fun hz => ⟨by omega, ih _ _ _ ⟨u + 1, by omega, by omega, rfl, by rw [stp, if_neg (fun hq => hz ⟨hq.2.1, by rw [Nat.zero_add] at hq; exact hq.2.2⟩), u2]; rfl⟩ (by omega)⟩
    refine ⟨by omega, trivial, by omega, fun z2 => nox (by omega), fun z2 => ⟨by omega, s'.1, ?_⟩⟩
    have ex : (e : Int) - wo.length = ((e - wo.length : Nat) : Int) := by omega
    rw [ex]
    refine c_standsAt s' t2 h' hg (by omega) (by omega) (by omega) (by omega) (by omega) (Or.inr o1) ?_
    by_cases c : stnd row (e - wo.length) wo = true
    · rw [if_pos c]
      rw [if_pos ⟨o1, by omega, by rw [Nat.zero_add]; exact c⟩] at stp
      have hv := hw (e - wo.length) (by omega)
      simp only [hK_p, hL_p, hI_p, hR_p, wI_p, cpI_p, hN_p, forall_eq, true_and, and_true, ne_eq, not_true_eq_false, not_false_eq_true, true_implies, false_implies, imp_false, implies_true, if_true, if_false, reduceCtorEq, s1, s5, s6, s7, hv]
      generalize fw wl row 0 (e - wo.length) = vv at *
      refine ⟨fun z3 => absurd z3 (by decide), fun _ => ⟨by omega, by omega, by omega, ih _ _ _ ⟨u + 1, by omega, by omega, rfl, ?_⟩ (by omega)⟩⟩
      rw [stp]; omega
    · rw [if_neg c]
      exact ⟨fun _ => nox (fun hq => c hq.2), fun z3 => absurd rfl z3⟩
theorem c_ways {S : St} {I : Im} {r : Rs} {Q : Int → Hp → Prop} (c : Cs r) (hR : Rc S I) (w : WF S) (k : ∀ I', Rc S I' → Ex aCs I I' → Q (oWays S) (I', r)) : C_X10_waysToTell 23 40 (I, r) Q := by
  have s := c.2.2.2.1
  have q := s
  obtain ⟨s1, ⟨s2, s3, s4⟩, ⟨s5, s6, s7⟩, _, s8⟩ := q
  have f3 := c.2.2.2.2.1.2.2.1
  have okw := w.2.2.2.1
  have hl := w.2.2.2.2.1.1
  have hn := hR.2.2.2.2.1.1
  have m1 : min (((sNw S).1.length : Nat) : Int) 60 = (sNw S).1.length := by omega
  unfold oWays at k
  rw [tt_fw (fun v hv => (okw.2 v hv).1) _ _ (Nat.le_refl _) (Nat.le_refl _), Nat.sub_self] at k
  apply G_X10_waysToTell
  unfold V_X10_waysToTell
  simp only [hK_p, hL_p, hI_p, hR_p, wI_p, cpI_p, hN_p, forall_eq, true_and, and_true, ne_eq, not_true_eq_false, not_false_eq_true, true_implies, false_implies, imp_false, implies_true, if_true, if_false, reduceCtorEq, f3.1, hn.1, s1, s5, s6, s7, m1]
  refine ⟨by omega, ?_⟩
  have ks : ∀ J : Im, Ex (fun a _ => a = 25) I J → Rc S J := fun J hJ => hR.kept okw (hJ.mono (fun a q z => by omega))
  refine Lp_X10_waysToTell_19_ind (fun x h => ∃ (e : Nat) (J : Im), x = ((e + 1 : Nat) : Int) ∧ e ≤ (sNw S).1.length ∧ h = (J, r) ∧ Ex (fun a _ => a = 25) I J ∧ ∀ j : Nat, j ≤ e → J 25 j = min 1000000000 ((fw (sWl S) (sNw S).1 0 j : Nat) : Int)) (fun x _ => (sNw S).1.length + 1 - x.toNat) ?_ _ _ ⟨0, _, rfl, Nat.zero_le _, rfl, Ex.up rfl, fun j hj => ?_⟩
  · intro P x hh hI ih
    obtain ⟨e, J, rfl, e1, rfl, e2, e3⟩ := hI
    have hRJ := ks J e2
    unfold BLp_X10_waysToTell_19
    simp only [hK_p, hL_p, hI_p, hR_p, wI_p, cpI_p, hN_p, forall_eq, true_and, and_true, ne_eq, not_true_eq_false, not_false_eq_true, true_implies, false_implies, imp_false, implies_true, if_true, if_false, reduceCtorEq, s1, s5, s6, s7]
    refine ⟨fun z => ⟨by omega, ?_⟩, fun z => ?_⟩
    · have : e = (sNw S).1.length := by omega
      subst this
      have k := k J hRJ (e2.mono (fun a q z => by omega))
      rw [e3 _ (Nat.le_refl _)]
      exact k
    · refine c_waysToEnd (wl := sWl S) (row := (sNw S).1) s hRJ.2.2.2.1 okw f3 hRJ.2.2.2.2.1.1 (by omega) hl (fun j hj => e3 j (by omega)) ?_
      simp only [hK_p, hL_p, hI_p, hR_p, wI_p, cpI_p, hN_p, forall_eq, true_and, and_true, ne_eq, not_true_eq_false, not_false_eq_true, true_implies, false_implies, imp_false, implies_true, if_true, if_false, reduceCtorEq, s6, s7]
      refine ⟨by omega, by omega, ih _ _ ⟨e + 1, _, by omega, by omega, rfl, fun a q hq => by rw [upI_ne (by omega), e2 a q hq], fun j hj => ?_⟩ (by omega)⟩
      rcases (show j = e + 1 ∨ j ≤ e by omega) with z1 | z1
      · subst z1; rw [upI_self]
      · rw [upI_ne (by omega)]; exact e3 j z1
  · have : j = 0 := by omega
    subst this
    rw [fw_0]; exact upI_self _ _ _ _
