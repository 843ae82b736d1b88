/-! COMPONENT, part 3: what readers say -/
theorem sMl_emit (kind fig : Int) {l : Nat} (hl : l ≠ 0) : sMl kind fig l = emit kind ((min l 9 : Nat) : Int) fig ++ sMl kind fig (l - 9) := sMl_s kind fig hl
theorem c_sayMany {I : Im} {r : Rs} {b d m : Nat} {n kind fig : Int} {out : List Int} {Q : Hp → Prop} (s : Fs r b d n) (h : fg I b d out) (hl : (out.length : Int) + 2 * ((m + 8) / 9 : Nat) ≤ n) (hm : m ≤ 1000000) (hn : n ≤ 1000000) (hf : m = 0 ∨ (0 ≤ fig ∧ fig ≤ 9)) (k : ∀ I', fg I' b d (out ++ sM kind m fig) → Ex (aF b d) I I' → Q (I', r)) : C_X7_sayMany kind m fig b (I, r) Q := by
  have lp : ∀ m0 : Nat, m0 ≤ m → (∀ I', fg I' b d (out ++ sMl kind fig m0) → Ex (aF b d) I I' → Q (I', r)) → Lp_X7_sayMany_16 kind fig b m0 (I, r) Q := by
    intro m0 hm0 k
    refine Lp_X7_sayMany_16_ind (fun x h => ∃ (l : Nat) (J : Im) (o : List Int), (x = l ∨ (x ≤ 0 ∧ l = 0)) ∧ l ≤ m0 ∧ h = (J, r) ∧ fg J b d o ∧ o ++ sMl kind fig l = out ++ sMl kind fig m0 ∧ (o.length : Int) + 2 * ((l + 8) / 9 : Nat) ≤ n ∧ Ex (aF b d) I J) (fun x _ => x.toNat) ?_ _ _ ⟨m0, I, out, Or.inl rfl, Nat.le_refl _, rfl, h, rfl, by omega, Ex.refl I⟩
    intro P x hh hI ih
    obtain ⟨l, J, o, l0, l1, rfl, l2, l3, l4, l5⟩ := hI
    unfold BLp_X7_sayMany_16
    refine ⟨fun c1 => ?_, fun c1 => ?_⟩
    · have : l = 0 := by omega
      rw [this, sMl_0, List.append_nil] at l3
      exact k J (by rw [← l3]; exact l2) l5
    have hx : x = l := by omega
    subst hx
    have hl0 : l ≠ 0 := by omega
    have hfg : 0 ≤ fig ∧ fig ≤ 9 := by omega
    rw [sMl_emit kind fig hl0] at l3
    have j35 : ∀ y : Int, y = ((min l 9 : Nat) : Int) → J_X7_sayMany_35 P kind fig b l y (J, r) Q := by
      intro y hy
      rw [← hy] at l3
      have hyr : 1 ≤ y ∧ y ≤ 9 := by omega
      have fin : ∀ (K : Im) (e : List Int), fg K b d (o ++ e) → Ex (aF b d) I K → emit kind y fig = e → P ((l : Int) + (-9)) (K, r) := by
        intro K e hK xK he
        have el := emit_len kind y fig
        rw [he] at l3 el
        refine ih _ _ ⟨l - 9, K, o ++ e, by omega, by omega, rfl, hK, by rw [List.append_assoc]; exact l3, ?_, xK⟩ (by omega)
        rw [List.length_append]
        have : (l - 9 + 8) / 9 + 1 ≤ (l + 8) / 9 := by omega
        omega
      have one : emit kind y fig = [fig] → C_X2_add b fig (J, r) (fun r2 h1 => (((-2147483648 : Int) ≤ (l : Int) + (-9) ∧ (l : Int) + (-9) ≤ (2147483647 : Int)) ∧ (P ((l : Int) + (-9)) h1))) := fun he =>
        c_add s l2 (by omega) hn (by omega) (fun K hK xK => ⟨by omega, fin K [fig] hK (l5.trans xK (fun _ _ z => z) (fun _ _ z => z)) he⟩)
      have two : ∀ v w : Int, (0 ≤ v ∧ v ≤ 9) → (0 ≤ w ∧ w ≤ 9) → emit kind y fig = [v, w] → C_X2_add b v (J, r) (fun r2 h1 => C_X2_add b w h1 (fun r2 h1 => (((-2147483648 : Int) ≤ (l : Int) + (-9) ∧ (l : Int) + (-9) ≤ (2147483647 : Int)) ∧ (P ((l : Int) + (-9)) h1)))) := fun v w hv hw he =>
        c_add s l2 (by omega) hn (by omega) (fun K hK xK => c_add s hK (by simp; omega) hn (by omega) (fun L hL xL => ⟨by omega, fin L [v, w] (by rw [List.append_assoc] at hL; exact hL) ((l5.trans xK (C := aF b d) (fun _ _ z => z) (fun _ _ z => z)).trans xL (fun _ _ z => z) (fun _ _ z => z)) he⟩))
      unfold J_X7_sayMany_35 J_X7_sayMany_48 J_X7_sayMany_53 J_X7_sayMany_72 J_X7_sayMany_76 J_X7_sayMany_88
      have all2 : ¬ (kind = 4 ∧ y ≤ 1) → ((kind ≠ 1 → (hK (J, r) b = 2 ∧ C_X2_add b y (J, r) (fun r2 h1 => ((kind ≠ 1 → (hK h1 b = 2 ∧ C_X2_add b fig h1 (fun r2 h1 => (((-2147483648 : Int) ≤ (l : Int) + (-9) ∧ (l : Int) + (-9) ≤ (2147483647 : Int)) ∧ (P ((l : Int) + (-9)) h1))))) ∧ (kind = 1 → (hK h1 b = 2 ∧ C_X2_add b y h1 (fun r2 h1 => (((-2147483648 : Int) ≤ (l : Int) + (-9) ∧ (l : Int) + (-9) ≤ (2147483647 : Int)) ∧ (P ((l : Int) + (-9)) h1))))))))) ∧ (kind = 1 → (hK (J, r) b = 2 ∧ C_X2_add b fig (J, r) (fun r2 h1 => ((kind ≠ 1 → (hK h1 b = 2 ∧ C_X2_add b fig h1 (fun r2 h1 => (((-2147483648 : Int) ≤ (l : Int) + (-9) ∧ (l : Int) + (-9) ≤ (2147483647 : Int)) ∧ (P ((l : Int) + (-9)) h1))))) ∧ (kind = 1 → (hK h1 b = 2 ∧ C_X2_add b y h1 (fun r2 h1 => (((-2147483648 : Int) ≤ (l : Int) + (-9) ∧ (l : Int) + (-9) ≤ (2147483647 : Int)) ∧ (P ((l : Int) + (-9)) h1)))))))))) := by
        intro hk4
        refine ⟨fun k1 => ⟨s.1, ?_⟩, fun k1 => ⟨s.1, ?_⟩⟩
        · have he : emit kind y fig = [y, fig] := by unfold emit; rw [if_neg k1, if_neg hk4]
          exact c_add s l2 (by omega) hn (by omega) (fun K hK xK => ⟨fun _ => ⟨s.1, c_add s hK (by simp; omega) hn (by omega) (fun L hL xL => ⟨by omega, fin L [y, fig] (by rw [List.append_assoc] at hL; exact hL) ((l5.trans xK (C := aF b d) (fun _ _ z => z) (fun _ _ z => z)).trans xL (fun _ _ z => z) (fun _ _ z => z)) he⟩)⟩, fun z => absurd z k1⟩)
        · have he : emit kind y fig = [fig, y] := by unfold emit; rw [if_pos k1]
          exact c_add s l2 (by omega) hn (by omega) (fun K hK xK => ⟨fun z => absurd k1 z, fun _ => ⟨s.1, c_add s hK (by simp; omega) hn (by omega) (fun L hL xL => ⟨by omega, fin L [fig, y] (by rw [List.append_assoc] at hL; exact hL) ((l5.trans xK (C := aF b d) (fun _ _ z => z) (fun _ _ z => z)).trans xL (fun _ _ z => z) (fun _ _ z => z)) he⟩)⟩⟩)
      refine ⟨fun k4 => ⟨fun z => absurd z (by decide), fun _ => all2 (fun z => k4 z.1)⟩, fun k4 => ⟨fun c2 => ⟨fun _ => ⟨fun k1 => ⟨s.1, one ?_⟩, fun k1 => absurd k1 (by omega)⟩, fun z => absurd rfl z⟩, fun c2 => ⟨fun z => absurd z (by decide), fun _ => all2 (fun z => c2 z.2)⟩⟩⟩
      unfold emit
      rw [if_neg (by omega), if_pos ⟨k4, c2⟩]
    exact ⟨fun c2 => j35 9 (by omega), fun c2 => j35 l (by omega)⟩
  apply G_X7_sayMany
  unfold V_X7_sayMany
  simp only [forall_eq]
  unfold sM at k
  refine ⟨fun c1 => ?_, fun c1 => ?_⟩
  · rw [if_neg c1] at k
    exact lp m (Nat.le_refl _) k
  · rw [if_pos c1] at k
    have := lp (min m 3) (by omega) k
    rw [show min (m : Int) 3 = ((min m 3 : Nat) : Int) by omega]
    exact this
theorem c_sayCounts {I : Im} {r : Rs} {a c b d : Nat} {n n' : Int} {xs : List Int} {Q : Hp → Prop} (s : Fs r a c n) (s' : Fs r b d n') (hcd : c ≠ d) (h : fg I a c xs) (h' : fg I b d []) (hl : (xs.length : Int) ≤ n) (hl' : 2 * (xs.length : Int) ≤ n') (hn : n ≤ 1000000) (hn' : n' ≤ 1000000) (k : ∀ I', fg I' b d (sayC xs 10) → Ex (aF b d) I I' → Q (I', r)) : C_X7_sayCounts a b (I, r) Q := by
  have e3 := s.ne2 s'
  have e4 := s'.ne2 s
  have e5 := s.ne1 s' hcd
  apply G_X7_sayCounts
  unfold V_X7_sayCounts
  refine Lp_X7_sayCounts_2_ind (fun x h => ∃ (u : Nat) (J : Im), x = u ∧ u ≤ 10 ∧ h = (J, r) ∧ fg J b d (sayC xs u) ∧ Ex (aF b d) I J) (fun x _ => 10 - x.toNat) ?_ _ _ ⟨0, I, rfl, by omega, rfl, h', Ex.refl I⟩
  intro P x hh hI ih
  obtain ⟨u, J, rfl, u1, rfl, u2, u3⟩ := hI
  unfold BLp_X7_sayCounts_2
  refine ⟨fun c1 => ?_, fun c1 => ⟨s.1, ?_⟩⟩
  · have : u = 10 := by omega
    subst this; exact k J u2 u3
  · have hJ : fg J a c xs := h.ex u3 (by omega) (fun q => by omega)
    refine c_countOf s hJ hl hn ?_
    have l1 := sayC_len2 xs u
    have l2 := cntS_le xs (u + 1)
    have l3 : cntS xs (u + 1) = cntS xs u + cnt u xs := rfl
    have l4 := cnt_le u xs
    refine c_sayMany s' u2 (by omega) (by omega) hn' (Or.inr (by omega)) (fun K hK xK => ⟨by omega, ih _ _ ⟨u + 1, K, by omega, by omega, rfl, hK, u3.trans xK (fun _ _ z => z) (fun _ _ z => z)⟩ (by omega)⟩)
theorem c_sayRuns {I : Im} {r : Rs} {a c b d : Nat} {n n' kind : Int} {xs : List Int} {Q : Hp → Prop} (s : Fs r a c n) (s' : Fs r b d n') (hcd : c ≠ d) (h : fg I a c xs) (h' : fg I b d []) (hf : figs xs) (hl : (xs.length : Int) ≤ n) (hl' : 2 * (xs.length : Int) ≤ n') (hn : n ≤ 1000000) (hn' : n' ≤ 1000000) (k : ∀ I', fg I' b d (sR kind (-1) 0 (if kind = 2 then xs.reverse else xs)) → Ex (aF b d) I I' → Q (I', r)) : C_X7_sayRuns kind a b (I, r) Q := by
  have e3 := s.ne2 s'
  have e4 := s'.ne2 s
  have e5 := s.ne1 s' hcd
  have q := s
  obtain ⟨s1, s2, s3, s4⟩ := q
  have yl : (if kind = 2 then xs.reverse else xs).length = xs.length := by split <;> simp
  have yf : figs (if kind = 2 then xs.reverse else xs) := by
    split
    · exact fun v hv => hf v (List.mem_reverse.mp hv)
    · exact hf
  have yg : ∀ u : Nat, u < xs.length → (kind ≠ 2 → xs.getD u 0 = (if kind = 2 then xs.reverse else xs).getD u 0) ∧ (kind = 2 → xs.getD (xs.length - 1 - u) 0 = (if kind = 2 then xs.reverse else xs).getD u 0) := by
    intro u hu
    refine ⟨fun z => by rw [if_neg z], fun z => ?_⟩
    rw [if_pos z, List.getD_eq_getElem?_getD, List.getD_eq_getElem?_getD, List.getElem?_reverse hu]
  generalize (if kind = 2 then xs.reverse else xs) = ys at *
  apply G_X7_sayRuns
  unfold V_X7_sayRuns
  refine Lp_X7_sayRuns_8_ind (fun x3 x4 x5 h => ∃ (u m : Nat) (J : Im) (o : List Int), x5 = u ∧ x4 = m ∧ u ≤ ys.length ∧ h = (J, r) ∧ fg J b d o ∧ o ++ sR kind x3 m (ys.drop u) = sR kind (-1) 0 ys ∧ o.length + 2 * m ≤ 2 * u ∧ (m = 0 ∨ (0 ≤ x3 ∧ x3 ≤ 9)) ∧ Ex (aF b d) I J) (fun _ _ x5 _ => ys.length - x5.toNat) ?_ _ _ _ _ ⟨0, 0, I, [], rfl, rfl, Nat.zero_le _, rfl, h', rfl, by simp, Or.inl rfl, Ex.refl I⟩
  intro P x3 x4 x5 hh hI ih
  obtain ⟨u, m, J, o, rfl, rfl, u1, rfl, u2, u3, u4, u5, u6⟩ := hI
  have hJ : fg J a c xs := h.ex u6 (by omega) (fun q => by omega)
  have m1 : 2 * ((m + 8) / 9) ≤ 2 * m := by omega
  unfold BLp_X7_sayRuns_8
  simp only [hK_p, hL_p, hI_p, hR_p, wI_p, cpI_p, hN_p, forall_eq, true_and, and_true, ne_eq, not_true_eq_false, not_false_eq_true, true_implies, false_implies, imp_false, implies_true, if_true, if_false, reduceCtorEq, s1, s2, hJ.1]
  refine ⟨fun c1 => ?_, fun c1 => ?_⟩
  · rw [List.drop_eq_nil_of_le (by omega)] at u3
    refine c_sayMany s' u2 (by omega) (by omega) hn' u5 (fun K hK xK => k K ?_ (u6.trans xK (fun _ _ z => z) (fun _ _ z => z)))
    rw [← u3]; exact hK
  · have hu : u < ys.length := by omega
    obtain ⟨g1, g2⟩ := yg u (by omega)
    have gy : ys.getD u 0 = ys[u] := by rw [List.getD_eq_getElem?_getD, List.getElem?_eq_getElem hu]; rfl
    rw [gy] at g1 g2
    have yr := yf _ (List.getElem_mem hu)
    rw [drop_cons hu] at u3
    have j40 : ∀ y : Int, (0 ≤ y ∧ y < n) → J c y = ys[u] → J_X7_sayRuns_40 P kind a b x3 m u y c (J, r) Q := by
      intro y hy hv
      unfold J_X7_sayRuns_40
      simp only [hK_p, hL_p, hI_p, hR_p, wI_p, cpI_p, hN_p, forall_eq, true_and, and_true, ne_eq, not_true_eq_false, not_false_eq_true, true_implies, false_implies, imp_false, implies_true, if_true, if_false, reduceCtorEq, s3, s4, hv]
      refine ⟨hy, fun c2 => ?_, fun c2 => ?_⟩
      · rw [c2, sR_same] at u3
        exact ⟨by omega, by omega, ih _ _ _ _ ⟨u + 1, m + 1, J, o, by omega, by omega, by omega, rfl, u2, u3, by omega, Or.inr (by omega), u6⟩ (by omega)⟩
      · rw [sR_other c2, ← List.append_assoc] at u3
        have sl := sM_len kind x3 m
        refine c_sayMany s' u2 (by omega) (by omega) hn' u5 (fun K hK xK => ⟨by omega, by omega, ih _ _ _ _ ⟨u + 1, 1, K, _, by omega, rfl, by omega, rfl, hK, u3, by rw [List.length_append]; omega, Or.inr (by omega), u6.trans xK (fun _ _ z => z) (fun _ _ z => z)⟩ (by omega)⟩)
    refine ⟨fun c2 => j40 u (by omega) ?_, fun c2 => ⟨by omega, by omega, j40 _ (by omega) ?_⟩⟩
    · rw [← g1 c2, ← hJ.2.getD (by omega) 0, Int.zero_add]
    · rw [← g2 c2, show (xs.length : Int) - 1 - u = ((xs.length - 1 - u : Nat) : Int) by omega, ← hJ.2.getD (by omega) 0, Int.zero_add]
theorem c_say {I : Im} {r : Rs} {a c b d : Nat} {n n' kind : Int} {xs : List Int} {Q : Hp → Prop} (s : Fs r a c n) (s' : Fs r b d n') (hcd : c ≠ d) (h : fg I a c xs) (hf : figs xs) (hl : (xs.length : Int) ≤ n) (hl' : 2 * (xs.length : Int) ≤ n') (hn : n ≤ 1000000) (hn' : n' ≤ 1000000) (k : ∀ I', fg I' b d (sayL kind xs) → Ex (aF b d) I I' → Q (I', r)) : C_X7_say kind a b (I, r) Q := by
  have e3 := s.ne2 s'
  have e4 := s'.ne2 s
  have e5 := s.ne1 s' hcd
  apply G_X7_say
  unfold V_X7_say
  unfold sayL at k
  simp only [hK_p, hL_p, hI_p, hR_p, wI_p, cpI_p, hN_p, forall_eq, true_and, and_true, ne_eq, not_true_eq_false, not_false_eq_true, true_implies, false_implies, imp_false, implies_true, if_true, if_false, reduceCtorEq, s.1, s'.1, h.1]
  refine ⟨by omega, c_start s' (Or.inl hl') ?_⟩
  have h0 : fg (upI I b 1 0) a c xs := h.kept (upI_ne (by omega)) (funext fun q => upI_ne (by omega))
  have h1 : fg (upI I b 1 0) b d [] := ⟨by rw [upI_self]; rfl, Seg.nil _ _⟩
  refine ⟨fun c1 => ?_, fun c1 => ?_⟩
  · rw [if_neg c1] at k
    exact c_sayRuns s s' hcd h0 h1 hf hl hl' hn hn' (fun K hK xK => k K hK (fun x q hq => by rw [xK x q hq, upI_ne (by omega)]))
  · rw [if_pos c1] at k
    exact c_sayCounts s s' hcd h0 h1 hl hl' hn hn' (fun K hK xK => k K hK (fun x q hq => by rw [xK x q hq, upI_ne (by omega)]))
theorem un_2 {pm pf m f : Int} {xs : List Int} : un pm pf (m :: f :: xs) = if m = 0 ∨ (pf = f ∧ pm ≠ 9) then none else (un m f xs).map (List.replicate m.toNat f ++ ·) := rfl
def szU (o : Option (List Int)) : Int := match o with
  | none => -1
  | some ys => ys.length
theorem drp2 {xs : List Int} {u : Nat} (h : 2 * u + 1 < xs.length) : xs.drop (2 * u) = xs[2 * u] :: xs[2 * u + 1] :: xs.drop (2 * (u + 1)) := by
  rw [drop_cons (show 2 * u < xs.length by omega), drop_cons h]; rfl
theorem map_pre {o : Option (List Int)} (p q : List Int) : ((o.map (q ++ ·)).map (p ++ ·)) = o.map ((p ++ q) ++ ·) := by
  cases o with
  | none => rfl
  | some z => simp
theorem c_sizeUnsaid {I : Im} {r : Rs} {a c : Nat} {n : Int} {xs : List Int} {Q : Int → Hp → Prop} (s : Fs r a c n) (h : fg I a c xs) (hf : figs xs) (hl : (xs.length : Int) ≤ n) (hn : n ≤ 20000) (k : Q (szU (un 9 (-1) xs)) (I, r)) : C_X7_sizeUnsaid a (I, r) Q := by
  apply G_X7_sizeUnsaid
  unfold V_X7_sizeUnsaid
  simp only [hK_p, hL_p, hI_p, hR_p, wI_p, cpI_p, hN_p, forall_eq, true_and, and_true, ne_eq, not_true_eq_false, not_false_eq_true, true_implies, false_implies, imp_false, implies_true, if_true, if_false, reduceCtorEq, s.1, h.1]
  refine ⟨by omega, fun c1 => ?_, fun c1 => ?_⟩
  · refine Lp_X7_sizeUnsaid_15_ind (fun x1 x2 h => ∃ (u : Nat) (pre : List Int), x2 = ((2 * u : Nat) : Int) ∧ 2 * u ≤ xs.length ∧ h = (I, r) ∧ x1 = pre.length ∧ pre.length ≤ 9 * u ∧ un 9 (-1) xs = (un (if u = 0 then 9 else xs.getD (2 * u - 2) 0) (if u = 0 then -1 else xs.getD (2 * u - 1) 0) (xs.drop (2 * u))).map (pre ++ ·)) (fun _ x2 _ => xs.length - x2.toNat) ?_ _ _ _ ⟨0, [], rfl, by omega, rfl, rfl, by simp, by simp⟩
    intro P x1 x2 hh hI ih
    obtain ⟨u, pre, rfl, u1, rfl, rfl, u2, u3⟩ := hI
    unfold BLp_X7_sizeUnsaid_15
    simp only [hK_p, hL_p, hI_p, hR_p, wI_p, cpI_p, hN_p, forall_eq, true_and, and_true, ne_eq, not_true_eq_false, not_false_eq_true, true_implies, false_implies, imp_false, implies_true, if_true, if_false, reduceCtorEq, s.1, h.1]
    refine ⟨by omega, fun c2 => ?_, fun c2 => ?_⟩
    · rw [List.drop_eq_nil_of_le (show xs.length ≤ 2 * u by omega)] at u3
      have e : un 9 (-1) xs = some (pre ++ []) := u3
      rw [e, List.append_nil] at k
      exact k
    · have hu : 2 * u + 1 < xs.length := by omega
      have f0 := hf _ (List.getElem_mem (show 2 * u < xs.length by omega))
      have f1 := hf _ (List.getElem_mem hu)
      rw [drp2 hu, un_2] at u3
      have nx : xs[2 * u] ≠ 0 → ¬ ((if u = 0 then (-1 : Int) else xs.getD (2 * u - 1) 0) = xs[2 * u + 1] ∧ (if u = 0 then (9 : Int) else xs.getD (2 * u - 2) 0) ≠ 9) → ((-2147483648 : Int) ≤ (pre.length : Int) + xs[2 * u] ∧ (pre.length : Int) + xs[2 * u] ≤ (2147483647 : Int)) ∧ ((-2147483648 : Int) ≤ ((2 * u : Nat) : Int) + 2 ∧ ((2 * u : Nat) : Int) + 2 ≤ (2147483647 : Int)) ∧ P ((pre.length : Int) + xs[2 * u]) (((2 * u : Nat) : Int) + 2) (I, r) := by
        intro h0 h1
        rw [if_neg (by intro z; rcases z with z | z; exact h0 z; exact h1 z), map_pre] at u3
        refine ⟨by omega, by omega, ih _ _ _ ⟨u + 1, pre ++ List.replicate xs[2 * u].toNat xs[2 * u + 1], by omega, by omega, rfl, by simp; omega, by simp; omega, ?_⟩ (by omega)⟩
        rw [u3, if_neg (by omega), if_neg (by omega), show 2 * (u + 1) - 2 = 2 * u by omega, show 2 * (u + 1) - 1 = 2 * u + 1 by omega, List.getD_eq_getElem?_getD, List.getElem?_eq_getElem (show 2 * u < xs.length by omega), List.getD_eq_getElem?_getD, List.getElem?_eq_getElem hu]; rfl
      have bad : (xs[2 * u] = 0 ∨ ((if u = 0 then (-1 : Int) else xs.getD (2 * u - 1) 0) = xs[2 * u + 1] ∧ (if u = 0 then (9 : Int) else xs.getD (2 * u - 2) 0) ≠ 9)) → Q (-1) (I, r) := by
        intro z
        rw [if_pos z] at u3
        rw [u3] at k; exact k
      refine c_here s h hl (show 2 * u < xs.length by omega) ?_
      unfold J_X7_sizeUnsaid_56 J_X7_sizeUnsaid_57
      simp only [forall_eq]
      refine ⟨fun c3 => ?_, fun c3 => ⟨by omega, s.1, ?_⟩⟩
      · have hu0 : u = 0 := by omega
        refine ⟨fun c4 => bad (Or.inl c4), fun c4 => ⟨fun _ => nx c4 (fun z => ?_), fun z => absurd trivial z⟩⟩
        rw [if_pos hu0] at z
        omega
      · have hu0 : ¬ u = 0 := by omega
        rw [if_neg hu0, if_neg hu0] at nx bad
        have g1 : xs.getD (2 * u - 1) (-1) = xs.getD (2 * u - 1) 0 := by rw [List.getD_eq_getElem?_getD, List.getD_eq_getElem?_getD, List.getElem?_eq_getElem (show 2 * u - 1 < xs.length by omega)]; rfl
        have g2 : xs.getD (2 * u - 2) (-1) = xs.getD (2 * u - 2) 0 := by rw [List.getD_eq_getElem?_getD, List.getD_eq_getElem?_getD, List.getElem?_eq_getElem (show 2 * u - 2 < xs.length by omega)]; rfl
        refine c_get s h hl ?_
        rw [if_pos (by omega), show (((2 * u : Nat) : Int) - 1).toNat = 2 * u - 1 by omega, g1]
        refine ⟨by omega, s.1, ?_⟩
        rw [show ((2 * u : Nat) : Int) + 1 = ((2 * u + 1 : Nat) : Int) by omega]
        refine c_here s h hl hu ⟨fun c4 => ⟨fun c5 => bad (Or.inl c5), fun c5 => ⟨fun _ => nx c5 (fun z => c4 z.1), fun z => absurd trivial z⟩⟩, fun c4 => ⟨fun c5 => bad (Or.inl c5), fun c5 => ⟨fun z => absurd z (by decide), fun _ => ⟨by omega, s.1, c_get s h hl ?_⟩⟩⟩⟩
        rw [if_pos (by omega), show (((2 * u : Nat) : Int) - 2).toNat = 2 * u - 2 by omega, g2]
        exact ⟨fun c6 => nx c5 (fun z => z.2 c6), fun c6 => bad (Or.inr ⟨c4, c6⟩)⟩
  · rw [un_odd _ _ _ (by omega)] at k
    exact k
theorem rep_snoc (m : Nat) (f : Int) : List.replicate m f ++ [f] = List.replicate (m + 1) f := List.replicate_succ'.symm
theorem c_unsay {I : Im} {r : Rs} {a c b d : Nat} {n n' : Int} {xs ys : List Int} {Q : Hp → Prop} (s : Fs r a c n) (s' : Fs r b d n') (hcd : c ≠ d) (h : fg I a c xs) (hf : figs xs) (hu : un 9 (-1) xs = some ys) (hl : (xs.length : Int) ≤ n) (hl' : (ys.length : Int) ≤ n') (h60 : 60 ≤ n') (hn : n ≤ 20000) (hn' : n' ≤ 1000000) (k : ∀ I', fg I' b d ys → Ex (aF b d) I I' → Q (I', r)) : C_X7_unsay a b (I, r) Q := by
  have e3 := s.ne2 s'
  have e4 := s'.ne2 s
  have e5 := s.ne1 s' hcd
  have ev : xs.length % 2 = 0 := by
    rcases Nat.mod_two_eq_zero_or_one xs.length with z | z
    · exact z
    · rw [un_odd _ _ _ z] at hu; cases hu
  apply G_X7_unsay
  unfold V_X7_unsay
  refine ⟨s'.1, c_start s' (Or.inl h60) ?_⟩
  refine Lp_X7_unsay_8_ind (fun x h => ∃ (u : Nat) (pre : List Int) (pm pf : Int) (J : Im), x = ((2 * u : Nat) : Int) ∧ 2 * u ≤ xs.length ∧ h = (J, r) ∧ fg J b d pre ∧ Ex (aF b d) I J ∧ some ys = (un pm pf (xs.drop (2 * u))).map (pre ++ ·)) (fun x _ => xs.length - x.toNat) ?_ _ _ ⟨0, [], 9, -1, _, rfl, by omega, rfl, ⟨by rw [upI_self]; rfl, Seg.nil _ _⟩, fun x q hq => upI_ne (by omega), by rw [Nat.mul_zero, List.drop_zero, hu]; rfl⟩
  intro P x hh hI ih
  obtain ⟨u, pre, pm, pf, J, rfl, u1, rfl, u2, u3, u4⟩ := hI
  have hJ : fg J a c xs := h.ex u3 (by omega) (fun q => by omega)
  unfold BLp_X7_unsay_8
  simp only [hK_p, hL_p, hI_p, hR_p, wI_p, cpI_p, hN_p, forall_eq, true_and, and_true, ne_eq, not_true_eq_false, not_false_eq_true, true_implies, false_implies, imp_false, implies_true, if_true, if_false, reduceCtorEq, s.1, hJ.1]
  refine ⟨by omega, fun c1 => ?_, fun c1 => ?_⟩
  · rw [List.drop_eq_nil_of_le (show xs.length ≤ 2 * u by omega)] at u4
    have e : some ys = some (pre ++ []) := u4
    rw [List.append_nil] at e
    cases e
    exact k J u2 u3
  · have hul : 2 * u + 1 < xs.length := by omega
    have f0 := hf _ (List.getElem_mem (show 2 * u < xs.length by omega))
    have f1 := hf _ (List.getElem_mem hul)
    rw [drp2 hul, un_2] at u4
    split at u4
    · cases u4
    rw [map_pre] at u4
    have hlen : pre.length + xs[2 * u].toNat ≤ ys.length := by
      cases hz : un xs[2 * u] xs[2 * u + 1] (xs.drop (2 * (u + 1))) with
      | none => rw [hz] at u4; cases u4
      | some zs =>
        rw [hz] at u4
        have e : ys = pre ++ List.replicate xs[2 * u].toNat xs[2 * u + 1] ++ zs := by
          have : some ys = some (pre ++ List.replicate xs[2 * u].toNat xs[2 * u + 1] ++ zs) := u4
          exact Option.some.inj this
        rw [e]; simp
    refine c_here s hJ hl (show 2 * u < xs.length by omega) ?_
    refine Lp_X7_unsay_24_ind (fun x h => ∃ (v : Nat) (K : Im), x = xs[2 * u] - v ∧ v ≤ xs[2 * u].toNat ∧ h = (K, r) ∧ fg K b d (pre ++ List.replicate v xs[2 * u + 1]) ∧ Ex (aF b d) I K) (fun x _ => x.toNat) ?_ _ _ ⟨0, J, by simp, by omega, rfl, by rw [List.replicate_zero, List.append_nil]; exact u2, u3⟩
    intro P24 x hh hI ih2
    obtain ⟨v, K, rfl, v1, rfl, v2, v3⟩ := hI
    unfold BLp_X7_unsay_24
    refine ⟨fun c2 => ⟨by omega, ih _ _ ⟨u + 1, pre ++ List.replicate v xs[2 * u + 1], xs[2 * u], xs[2 * u + 1], K, by omega, by omega, rfl, v2, v3, ?_⟩ (by omega)⟩, fun c2 => ⟨by omega, s.1, ?_⟩⟩
    · rw [show v = xs[2 * u].toNat by omega]; exact u4
    · rw [show ((2 * u : Nat) : Int) + 1 = ((2 * u + 1 : Nat) : Int) by omega]
      refine c_here s (h.ex v3 (by omega) (fun q => by omega)) hl hul ⟨s'.1, c_add s' v2 (by simp; omega) hn' (by omega) (fun L hL xL => ⟨by omega, ih2 _ _ ⟨v + 1, L, by omega, by omega, rfl, ?_, v3.trans xL (fun _ _ z => z) (fun _ _ z => z)⟩ (by omega)⟩)⟩
      rw [List.append_assoc, rep_snoc] at hL
      exact hL
