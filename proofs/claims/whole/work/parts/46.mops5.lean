/-! MODEL, part 9: unreading, draws -/
theorem un_len : ∀ (xs : List Int) (pm pf : Int) (ys : List Int), figs xs → un pm pf xs = some ys → 2 * ys.length ≤ 9 * xs.length
  | [], _, _, ys, _, h => by
    have : ([] : List Int) = ys := Option.some.inj h
    subst this; simp
  | [_], _, _, ys, _, h => by cases h
  | m :: f :: xs, pm, pf, ys, hf, h => by
    have h0 : un pm pf (m :: f :: xs) = if m = 0 ∨ (pf = f ∧ pm ≠ 9) then none else (un m f xs).map (List.replicate m.toNat f ++ ·) := rfl
    rw [h0] at h
    split at h
    · cases h
    · cases hu : un m f xs with
      | none => rw [hu] at h; cases h
      | some zs =>
        rw [hu] at h
        have h1 : List.replicate m.toNat f ++ zs = ys := Option.some.inj h
        have ih := un_len xs m f zs (fun v hv => hf v (List.mem_cons_of_mem _ (List.mem_cons_of_mem _ hv))) hu
        have hm := hf m List.mem_cons_self
        rw [← h1]
        simp
        omega
theorem un_fig : ∀ (xs : List Int) (pm pf : Int) (ys : List Int), figs xs → un pm pf xs = some ys → figs ys
  | [], _, _, ys, _, h => by
    have : ([] : List Int) = ys := Option.some.inj h
    subst this; exact figs.nil
  | [_], _, _, ys, _, h => by cases h
  | m :: f :: xs, pm, pf, ys, hf, h => by
    have h0 : un pm pf (m :: f :: xs) = if m = 0 ∨ (pf = f ∧ pm ≠ 9) then none else (un m f xs).map (List.replicate m.toNat f ++ ·) := rfl
    rw [h0] at h
    split at h
    · cases h
    · cases hu : un m f xs with
      | none => rw [hu] at h; cases h
      | some zs =>
        rw [hu] at h
        have h1 : List.replicate m.toNat f ++ zs = ys := Option.some.inj h
        have ih := un_fig xs m f zs (fun v hv => hf v (List.mem_cons_of_mem _ (List.mem_cons_of_mem _ hv))) hu
        have hm := hf f (List.mem_cons_of_mem _ List.mem_cons_self)
        rw [← h1]
        exact figs.app (fun v hv => by rw [List.eq_of_mem_replicate hv]; exact hm) ih
theorem un_odd : ∀ (xs : List Int) (pm pf : Int), xs.length % 2 = 1 → un pm pf xs = none
  | [], _, _, h => by simp at h
  | [_], _, _, _ => rfl
  | m :: f :: xs, pm, pf, h => by
    have h0 : un pm pf (m :: f :: xs) = if m = 0 ∨ (pf = f ∧ pm ≠ 9) then none else (un m f xs).map (List.replicate m.toNat f ++ ·) := rfl
    rw [h0]
    split
    · rfl
    · rw [un_odd xs m f (by simp at h; omega)]; rfl
theorem omap {α : Type} {o p : Option (List α)} {a b : List α} (h : p = o.map (b ++ ·)) : p.map (a ++ ·) = o.map ((a ++ b) ++ ·) := by
  rw [h]
  cases o <;> simp
theorem drop2 {xs : List Int} {k : Nat} (h : k + 1 < xs.length) : xs.drop k = xs[k] :: xs[k + 1] :: xs.drop (k + 2) := by
  rw [List.drop_eq_getElem_cons (by omega), List.drop_eq_getElem_cons (by omega)]
theorem m_isUnread {I : Im} {r : Rs} {xs : List Int} {Q : Int → Hp → Prop} (m : Mst r) (hw : rw_ I xs) (hf : figs xs) (hl : xs.length ≤ 60) (k : ∀ I' ys, un 9 (-1) xs = some ys → sd I' ys → Ex aSd I I' → Q 1 (I', r)) (k0 : ∀ I', un 9 (-1) xs = none → Ex aSd I I' → Q 0 (I', r)) : C_X12_isUnread 363 (I, r) Q := by
  have m' := m
  unfold Mst at m'
  apply G_X12_isUnread
  unfold V_X12_isUnread
  simp only [hK_p, hL_p, hI_p, hR_p, wI_p, cpI_p, hN_p, forall_eq, true_and, and_true, ne_eq, not_true_eq_false, not_false_eq_true, true_implies, false_implies, imp_false, implies_true, if_true, if_false, reduceCtorEq, m', hw.1]
  refine ⟨⟨by omega, by omega⟩, fun c => ?_, fun c => ?_⟩
  · have hev : xs.length % 2 = 0 := by omega
    refine Lp_X12_isUnread_19_ind (fun x h => ∃ (t : Nat) (J : Im) (o : List Int) (pm pf : Int), x = ((2 * t : Nat) : Int) ∧ 2 * t ≤ xs.length ∧ h = (J, r) ∧ sd J o ∧ Ex aSd I J ∧ o.length ≤ 9 * t ∧ un 9 (-1) xs = (un pm pf (xs.drop (2 * t))).map (o ++ ·) ∧ ((t = 0 ∧ pf = -1) ∨ (0 < t ∧ xs[2 * t - 2]? = some pm ∧ xs[2 * t - 1]? = some pf))) (fun x _ => xs.length - x.toNat) ?_ _ _ ⟨0, _, [], 9, -1, rfl, by omega, rfl, ⟨by rw [upI_self]; rfl, Seg.nil _ _⟩, Ex.up (Or.inr ⟨rfl, rfl⟩), by simp, by simp, Or.inl ⟨rfl, rfl⟩⟩
    intro P x h hI ih
    obtain ⟨t, J, o, pm, pf, rfl, ht, rfl, s1, s2, s3, s4, s5⟩ := hI
    have w1 := hw.kept s2
    unfold BLp_X12_isUnread_19
    simp only [hK_p, hL_p, hI_p, hR_p, wI_p, cpI_p, hN_p, forall_eq, true_and, and_true, ne_eq, not_true_eq_false, not_false_eq_true, true_implies, false_implies, imp_false, implies_true, if_true, if_false, reduceCtorEq, m', w1.1]
    refine ⟨fun c2 => ?_, fun c2 => ?_⟩
    · rw [List.drop_of_length_le (by omega)] at s4
      have e : un pm pf [] = some [] := rfl
      rw [e] at s4
      exact k J o (by rw [s4]; simp) s1 s2
    · have h1 : 2 * t + 1 < xs.length := by omega
      have rm : J 380 ((2 * t : Nat) : Int) = xs[2 * t] := by have := w1.2.get (k := 2 * t) (by omega); rw [Int.zero_add] at this; exact this
      have rf : J 380 (((2 * t : Nat) : Int) + 1) = xs[2 * t + 1] := by
        have := w1.2.get (k := 2 * t + 1) (by omega)
        rw [Int.zero_add] at this
        rw [← this]
        congr 1
      have hm := hf _ (List.getElem_mem (show 2 * t < xs.length by omega))
      have hff := hf _ (List.getElem_mem h1)
      rw [drop2 h1] at s4
      have e0 : un pm pf (xs[2 * t] :: xs[2 * t + 1] :: xs.drop (2 * t + 2)) = if xs[2 * t] = 0 ∨ (pf = xs[2 * t + 1] ∧ pm ≠ 9) then none else (un xs[2 * t] xs[2 * t + 1] (xs.drop (2 * t + 2))).map (List.replicate xs[2 * t].toNat xs[2 * t + 1] ++ ·) := rfl
      rw [e0] at s4
      have go : ¬ (xs[2 * t] = 0 ∨ (pf = xs[2 * t + 1] ∧ pm ≠ 9)) → Lp_X12_isUnread_86 P 363 ((2 * t : Nat) : Int) 0 (J, r) Q := by
        intro hn
        rw [if_neg hn] at s4
        refine Lp_X12_isUnread_86_ind (fun x h => ∃ (u : Nat) (K : Im), x = u ∧ h = (K, r) ∧ (u : Int) ≤ xs[2 * t] ∧ sd K (o ++ List.replicate u xs[2 * t + 1]) ∧ Ex aSd I K) (fun x _ => 10 - x.toNat) ?_ _ _ ⟨0, J, rfl, rfl, by omega, by simpa using s1, s2⟩
        intro P86 x h hI ih2
        obtain ⟨u, K, rfl, rfl, u1, u2, u3⟩ := hI
        have w2 := hw.kept u3
        have rm2 : K 380 ((2 * t : Nat) : Int) = xs[2 * t] := by have := w2.2.get (k := 2 * t) (by omega); rw [Int.zero_add] at this; exact this
        have rf2 : K 380 (((2 * t : Nat) : Int) + 1) = xs[2 * t + 1] := by
          have := w2.2.get (k := 2 * t + 1) (by omega)
          rw [Int.zero_add] at this
          rw [← this]
          congr 1
        unfold BLp_X12_isUnread_86
        simp only [hK_p, hL_p, hI_p, hR_p, wI_p, cpI_p, hN_p, forall_eq, true_and, and_true, ne_eq, not_true_eq_false, not_false_eq_true, true_implies, false_implies, imp_false, implies_true, if_true, if_false, reduceCtorEq, m', rm2, rf2]
        refine ⟨⟨by omega, by omega⟩, fun c3 => ⟨⟨by omega, by omega⟩, ih _ _ ⟨t + 1, K, _, xs[2 * t], xs[2 * t + 1], by omega, by omega, rfl, u2, u3, ?_, ?_, Or.inr ⟨by omega, ?_, ?_⟩⟩ (by omega)⟩, fun c3 => ⟨⟨by omega, by omega⟩, ⟨by omega, by omega⟩, ?_⟩⟩
        · rw [List.length_append, List.length_replicate]; omega
        · have eu : u = xs[2 * t].toNat := by omega
          rw [s4, eu, show 2 * (t + 1) = 2 * t + 2 by omega]
          cases un xs[2 * t] xs[2 * t + 1] (xs.drop (2 * t + 2)) <;> simp
        · rw [show 2 * (t + 1) - 2 = 2 * t by omega]
          exact List.getElem?_eq_getElem _
        · rw [show 2 * (t + 1) - 1 = 2 * t + 1 by omega]
          exact List.getElem?_eq_getElem _
        · refine m_say m u2 (by rw [List.length_append, List.length_replicate]; omega) (fun Z z1 z2 => ⟨⟨by omega, by omega⟩, ih2 _ _ ⟨u + 1, Z, by omega, rfl, by omega, ?_, u3.trans z2 (fun _ _ z => z) (fun _ _ z => z)⟩ (by omega)⟩)
          rw [List.replicate_succ', ← List.append_assoc]
          exact z1
      have stopn : (xs[2 * t] = 0 ∨ (pf = xs[2 * t + 1] ∧ pm ≠ 9)) → Q 0 (J, r) := by
        intro hn
        rw [if_pos hn] at s4
        exact k0 J s4 s2
      have j55 : ∀ y : Int, (y = 0 ↔ ¬ pf = xs[2 * t + 1]) → (¬ y = 0 → 0 < t) → J_X12_isUnread_55 P 363 ((2 * t : Nat) : Int) y (J, r) Q := by
        intro y hy hy0
        unfold J_X12_isUnread_55
        simp only [hK_p, hL_p, hI_p, hR_p, wI_p, cpI_p, hN_p, forall_eq, true_and, and_true, ne_eq, not_true_eq_false, not_false_eq_true, true_implies, false_implies, imp_false, implies_true, if_true, if_false, reduceCtorEq, m', rm]
        refine ⟨⟨by omega, by omega⟩, fun c3 => stopn (Or.inl c3), fun c3 => ⟨fun c4 => go (fun z => ?_), fun c4 => ?_⟩⟩
        · rcases z with z | z
          · exact c3 z
          · exact hy.mp c4 z.1
        · have ht0 := hy0 c4
          rcases s5 with ⟨z, -⟩ | ⟨-, z1, z2⟩
          · omega
          · have hpm : J 380 (((2 * t : Nat) : Int) - 2) = pm := by
              have := w1.2 _ _ z1
              rw [Int.zero_add] at this
              rw [← this]
              congr 1
              omega
            rw [hpm]
            have hpf : pf = xs[2 * t + 1] := by
              by_cases z : pf = xs[2 * t + 1]
              · exact z
              · exact absurd (hy.mpr z) c4
            refine ⟨⟨by omega, by omega⟩, ⟨by omega, by omega⟩, fun c5 => go (fun z => ?_), fun c5 => stopn (Or.inr ⟨hpf, c5⟩)⟩
            rcases z with z | z
            · exact c3 z
            · exact z.2 c5
      rcases s5 with ⟨z, z2⟩ | ⟨z0, z1, z2⟩
      · subst z
        subst z2
        refine ⟨fun c3 => ?_, fun c3 => absurd (by omega) c3⟩
        unfold J_X12_isUnread_54
        exact j55 0 ⟨fun _ z => by omega, fun _ => rfl⟩ (fun z => absurd rfl z)
      · have hpf : J 380 (((2 * t : Nat) : Int) - 1) = pf := by
          have := w1.2 _ _ z2
          rw [Int.zero_add] at this
          rw [← this]
          congr 1
          omega
        rw [rf, hpf]
        refine ⟨fun c3 => absurd c3 (by omega), fun c3 => ⟨⟨by omega, by omega⟩, ⟨by omega, by omega⟩, ⟨by omega, by omega⟩, ⟨by omega, by omega⟩, fun c4 => ?_, fun c4 => ?_⟩⟩
        · unfold J_X12_isUnread_54
          exact j55 0 ⟨fun _ z => c4 z.symm, fun _ => rfl⟩ (fun _ => z0)
        · exact j55 1 ⟨fun z => absurd z (by decide), fun z => absurd c4.symm z⟩ (fun _ => z0)
  · exact k0 I (un_odd xs 9 (-1) (by omega)) (Ex.refl I)
theorem oUnread_some {S : St} {ys : List Int} (h : un 9 (-1) (sNw S).1 = some ys) : oUnread S = if ys.length > 60 then (-1000000004, S) else ((ys.length : Int), deed S ys) := by
  unfold oUnread; rw [h]
theorem oUnread_none {S : St} (h : un 9 (-1) (sNw S).1 = none) : oUnread S = (-1000000003, S) := by
  unfold oUnread; rw [h]
theorem m_unread {S : St} {I : Im} {r : Rs} {Q : Int → Hp → Prop} (m : Mst r) (hR : Rm S I) (w : WF S) (k : ∀ I', Rm (oUnread S).2 I' → Ex aM I I' → Q (oUnread S).1 (I', r)) : C_X12_unread 363 (I, r) Q := by
  have m' := m
  unfold Mst at m'
  have okn : NSok (sNw S) := w.2.2.2.2.1
  apply G_X12_unread
  unfold V_X12_unread
  refine ⟨m.1, m_begin m hR.2.2.2.2.1 okn (fun J hJ xJ => ⟨m.1, ?_⟩)⟩
  refine m_isUnread m hJ okn.2.1 okn.1 (fun K ys hu hs xK => ⟨fun _ => ?_, fun z => absurd z (by decide)⟩) (fun K hu xK => ⟨fun z => absurd rfl z, fun _ => ?_⟩)
  · have exK : Ex aSc I K := (xJ.trans xK (C := aSc) (fun a q h => by omega) (fun a q h => by omega))
    have hRK := hR.kept exK
    simp only [hK_p, hL_p, hI_p, hR_p, wI_p, cpI_p, hN_p, forall_eq, true_and, and_true, ne_eq, not_true_eq_false, not_false_eq_true, true_implies, false_implies, imp_false, implies_true, if_true, if_false, reduceCtorEq, m', hs.1]
    refine ⟨fun c => ?_, fun c => ?_⟩
    · rw [oUnread_some hu, if_neg (by omega)] at k
      refine m_note m hRK w (fun L hL xL => ?_)
      have l31 : L 363 31 = ys.length := by rw [xL _ _ (by omega)]; exact hs.1
      have m31 : upI L 370 0 (ys.length : Int) 363 31 = ys.length := by rw [upI_ne (by omega), l31]
      simp only [hK_p, hL_p, hI_p, hR_p, wI_p, cpI_p, hN_p, forall_eq, true_and, and_true, ne_eq, not_true_eq_false, not_false_eq_true, true_implies, false_implies, imp_false, implies_true, if_true, if_false, reduceCtorEq, m', l31, m31]
      refine ⟨⟨by omega, by omega⟩, ?_⟩
      refine m_bring (by simp only [m']) (by simp only [m']) (by omega) (by simp only [m']; omega) (by omega) (by simp only [m']; omega) (by omega) (by simp only [m']; omega) (by simp only [m']; omega) (Or.inl (by omega)) ?_
      have n31 : cpy (upI L 370 0 (ys.length : Int)) 381 0 370 3 ys.length 363 31 = ys.length := by rw [cpy_at, if_neg (by omega), m31]
      simp only [hK_p, hL_p, hI_p, hR_p, wI_p, cpI_p, hN_p, forall_eq, true_and, and_true, ne_eq, not_true_eq_false, not_false_eq_true, true_implies, false_implies, imp_false, implies_true, if_true, if_false, reduceCtorEq, m', n31]
      refine k _ (Rm.deed w hL (fun a q hq => ?_) ?_ ?_) (fun a q hq => ?_)
      · rw [cpy_at, if_neg (by omega), upI_ne (by omega)]
      · rw [cpy_at, if_neg (by omega), upI_self]
      · refine hs.2.shift (fun q q0 q1 => ?_)
        rw [cpy_at, if_pos (by omega), upI_ne (by omega), xL _ _ (by omega)]
        congr 1
        omega
      · rw [cpy_at, if_neg (by omega), upI_ne (by omega), xL a q (by omega), exK a q (by omega)]
    · rw [oUnread_some hu, if_pos (by omega)] at k
      exact k K hRK (exK.mono (fun a q h => by omega))
  · rw [oUnread_none hu] at k
    have exK : Ex aSc I K := (xJ.trans xK (C := aSc) (fun a q h => by omega) (fun a q h => by omega))
    exact k K (hR.kept exK) (exK.mono (fun a q h => by omega))

theorem m_draw {I : Im} {r : Rs} {s n : Int} {Q : Int → Hp → Prop} (m : Mst r) (hs : I 363 20 = s) (ok : okSd s) (hn : 0 < n) (k : ∀ I', I' 363 20 = sdN s → Ex (fun a q => a = 363 ∧ q = 20) I I' → Q (sdN s / 65536 % n) (I', r)) : C_X12_draw 363 n (I, r) Q := by
  have m' := m
  unfold Mst at m'
  obtain ⟨h0, h1⟩ := ok
  apply G_X12_draw
  unfold V_X12_draw
  have e : (s * 1103515245 + 12345) % 2147483648 = sdN s := rfl
  have e0 : 0 ≤ sdN s := by unfold sdN; omega
  have e1 : sdN s ≤ 2147483647 := by unfold sdN; omega
  simp only [hK_p, hL_p, hI_p, hR_p, wI_p, cpI_p, hN_p, forall_eq, true_and, and_true, ne_eq, not_true_eq_false, not_false_eq_true, true_implies, false_implies, imp_false, implies_true, if_true, if_false, reduceCtorEq, m', hs, e, upI_self]
  refine ⟨⟨by omega, by omega⟩, ⟨by omega, by omega⟩, ⟨by omega, by omega⟩, ⟨by omega, by omega⟩, ⟨by omega, by omega⟩, ⟨by omega, by omega⟩, ?_⟩
  exact k _ (upI_self _ _ _ _) (Ex.up ⟨rfl, rfl⟩)
theorem Rm.seed {S : St} {I I' : Im} {s : Int} (h : Rm S I) (e : Ex (fun a q => a = 363 ∧ q = 20) I I') (hs : I' 363 20 = s) : Rm (uSd S s) I' := by
  obtain ⟨h1, h2, h3, h4, h5, h6, h7, h8, h9, h10⟩ := h
  have rr0 : ∀ a : Nat, a ≠ 363 → I' a = I a := fun a ha => e.row a (fun k => by omega)
  exact ⟨h1.kept (e _ _ (by omega)) (rr0 _ (by omega)), (e _ _ (by omega)).trans h2, (e _ _ (by omega)).trans h3, h4.kept (e _ _ (by omega)) (rr0 _ (by omega)) (rr0 _ (by omega)), by rw [rr0 370 (by omega)]; exact h5, h6.kept (e _ _ (by omega)) (rr0 _ (by omega)), h7.kept (rr0 _ (by omega)) (rr0 _ (by omega)) (rr0 _ (by omega)), hs, h9.kept (e _ _ (by omega)) (rr0 _ (by omega)) (rr0 _ (by omega)) (rr0 _ (by omega)), h10.kept (e _ _ (by omega)) (rr0 _ (by omega)) (rr0 _ (by omega))⟩
theorem sdN_ok (s : Int) : okSd (sdN s) := by
  unfold sdN okSd
  omega
theorem m_drifts {S : St} {I : Im} {r : Rs} {Q : Hp → Prop} (m : Mst r) (hR : Rm S I) (w : WF S) (k : ∀ I', Rm (dr1 S) I' → Ex aM I I' → Q (I', r)) : C_X12_drifts 363 (I, r) Q := by
  have m' := m
  unfold Mst at m'
  have okn : NSok (sNw S) := w.2.2.2.2.1
  have hl60 := okn.1
  apply G_X12_drifts
  unfold V_X12_drifts
  refine ⟨m.1, m_note m hR w (fun J hJ xJ => ⟨m.1, ?_⟩)⟩
  refine m_draw (s := sSd S) m hJ.2.2.2.2.2.2.2.1 w.2.2.2.2.2.2.2.1 (by omega) (fun K k20 xK => ?_)
  have hRK := hJ.seed xK k20
  have o1 := sdN_ok (sSd S)
  have o2 := o1.1
  have a0 : K 370 0 = (sNw S).1.length := hRK.2.2.2.2.1.1
  have exK : Ex aM I K := fun a q hq => by rw [xK a q (by omega), xJ a q (by omega)]
  unfold dr1 at k
  generalize hW : sdN (sSd S) / 65536 % 8 = W at *
  have hW0 : 0 ≤ W ∧ W < 8 := by omega
  simp only [hK_p, hL_p, hI_p, hR_p, wI_p, cpI_p, hN_p, forall_eq, true_and, and_true, ne_eq, not_true_eq_false, not_false_eq_true, true_implies, false_implies, imp_false, implies_true, if_true, if_false, reduceCtorEq, m', a0]
  refine ⟨fun c => ⟨fun c2 => ⟨⟨by omega, by omega⟩, ⟨by omega, by omega⟩, ?_⟩, fun c2 => ⟨⟨by omega, by omega⟩, fun c3 => ?_, fun c3 => ⟨⟨by omega, by omega⟩, ⟨by omega, by omega⟩, ?_⟩⟩⟩, fun c => ?_⟩
  · dsimp only at k
    rw [if_neg (by omega), if_neg c2] at k
    refine ⟨⟨by omega, by omega⟩, m_draw (s := sdN (sSd S)) (n := (sNw S).1.length + 1) m k20 o1 (by omega) (fun L l20 xL => ?_)⟩
    have hRL : Rm (uSd (uNP S (sNw S) (push S)) (sdN (sdN (sSd S)))) L := hRK.seed xL l20
    have q2 := (sdN_ok (sdN (sSd S))).1
    have q0 : 0 ≤ sdN (sdN (sSd S)) / 65536 % ((sNw S).1.length + 1) := Int.emod_nonneg _ (by omega)
    have q1 : sdN (sdN (sSd S)) / 65536 % ((sNw S).1.length + 1) < (sNw S).1.length + 1 := Int.emod_lt_of_pos _ (by omega)
    generalize sdN (sdN (sSd S)) / 65536 % (((sNw S).1.length : Int) + 1) = d at *
    simp only [hK_p, hL_p, hI_p, hR_p, wI_p, cpI_p, hN_p, forall_eq, true_and, and_true, ne_eq, not_true_eq_false, not_false_eq_true, true_implies, false_implies, imp_false, implies_true, if_true, if_false, reduceCtorEq, m']
    refine ⟨⟨by omega, by omega⟩, ⟨by omega, by omega⟩, ?_⟩
    have f0 : L 370 0 = (sNw S).1.length := hRL.2.2.2.2.1.1
    have f1 : Seg (L 370) 3 (sNw S).1 := hRL.2.2.2.2.1.2.2.2.1
    have hn : NSm ((upI L 370 0 ((sNw S).1.length - d)) 370) 0 ((sNw S).1.take ((sNw S).1.length - d.toNat), (sNw S).2) := by
      refine NSm.row okn hRL.2.2.2.2.1 ?_ ((f1.take _).congr (fun q q1 q2 => ?_)) (fun q hq => upI_ne (by omega))
      · rw [upI_self, List.length_take]; omega
      · rw [upI_ne (by omega)]
    exact k _ (hRL.now (fun a q hq => upI_ne (by omega)) hn) (fun a q hq => by rw [upI_ne (by omega), xL a q (by omega), exK a q hq])
  · dsimp only at k
    rw [if_neg (by omega), if_pos c2, if_neg (by omega)] at k
    exact k K hRK exK
  · dsimp only at k
    rw [if_neg (by omega), if_pos c2, if_pos (by omega)] at k
    refine m_draw (s := sdN (sSd S)) (n := 10) m k20 o1 (by omega) (fun L l20 xL => ?_)
    have hRL : Rm (uSd (uNP S (sNw S) (push S)) (sdN (sdN (sSd S)))) L := hRK.seed xL l20
    have q2 := (sdN_ok (sdN (sSd S))).1
    have q0 : 0 ≤ sdN (sdN (sSd S)) / 65536 % 10 := Int.emod_nonneg _ (by omega)
    generalize sdN (sdN (sSd S)) / 65536 % 10 = d at *
    have f0 : L 370 0 = (sNw S).1.length := hRL.2.2.2.2.1.1
    have f1 : Seg (L 370) 3 (sNw S).1 := hRL.2.2.2.2.1.2.2.2.1
    have f2 : upI L 370 (3 + (sNw S).1.length) d 370 0 = (sNw S).1.length := by rw [upI_ne (by omega), f0]
    simp only [hK_p, hL_p, hI_p, hR_p, wI_p, cpI_p, hN_p, forall_eq, true_and, and_true, ne_eq, not_true_eq_false, not_false_eq_true, true_implies, false_implies, imp_false, implies_true, if_true, if_false, reduceCtorEq, m', f2]
    refine ⟨⟨by omega, by omega⟩, ⟨by omega, by omega⟩, ⟨by omega, by omega⟩, ⟨by omega, by omega⟩, ?_⟩
    have hn : NSm ((upI (upI L 370 (3 + (sNw S).1.length) d) 370 0 ((sNw S).1.length + 1)) 370) 0 ((sNw S).1 ++ [d], (sNw S).2) := by
      refine NSm.row okn hRL.2.2.2.2.1 ?_ (f1.snoc (fun q q1 q2 => ?_) ?_) (fun q hq => by rw [upI_ne (by omega), upI_ne (by omega)])
      · rw [upI_self]; simp
      · rw [upI_ne (by omega), upI_ne (by omega)]
      · rw [upI_ne (by omega), upI_self]
    exact k _ (hRL.now (fun a q hq => by rw [upI_ne (by omega), upI_ne (by omega)]) hn) (fun a q hq => by rw [upI_ne (by omega), upI_ne (by omega), xL a q (by omega), exK a q hq])
  · dsimp only at k
    rw [if_pos (by omega)] at k
    refine m_begin m hRK.2.2.2.2.1 okn (fun L hL xL => ⟨m.1, ?_⟩)
    refine m_reads m hL okn.2.1 (by show (sNw S).1.length ≤ 7680; omega) (fun Z hZ xZ => ?_)
    have exZ : Ex aSc K Z := (xL.trans xZ (C := aSc) (fun a q h => by omega) (fun a q h => by omega))
    have hRZ := hRK.kept exZ
    have z29 : Z 363 29 = (sayL W (sNw S).1).length := hZ.1
    simp only [hK_p, hL_p, hI_p, hR_p, wI_p, cpI_p, hN_p, forall_eq, true_and, and_true, ne_eq, not_true_eq_false, not_false_eq_true, true_implies, false_implies, imp_false, implies_true, if_true, if_false, reduceCtorEq, m', z29]
    refine ⟨fun c2 => ?_, fun c2 => ?_⟩
    · rw [if_neg (by omega)] at k
      exact k Z hRZ (fun a q hq => by rw [exZ a q (by omega), exK a q hq])
    · rw [if_pos (by omega)] at k
      refine m_logs m hRZ okn hZ (by show (sayL W (sNw S).1).length ≤ 60; omega) (fun Y hY y29 xY => ?_)
      exact k Y hY (fun a q hq => by rw [xY a q (by omega), exZ a q (by omega), exK a q hq])
