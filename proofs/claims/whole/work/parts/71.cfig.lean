/-! COMPONENT, part 1: figures -/
def Fs (r : Rs) (a c : Nat) (n : Int) : Prop := rK r a = 2 ∧ rR r a 0 = c ∧ rK r c = 13 ∧ rL r c = n
def fg (I : Im) (a c : Nat) (xs : List Int) : Prop := I a 1 = xs.length ∧ Seg (I c) 0 xs
abbrev aF (a c : Nat) : Nat → Int → Prop := fun x k => (x = a ∧ k = 1) ∨ x = c
theorem Fs.ne {r : Rs} {a c : Nat} {n : Int} (h : Fs r a c n) : a ≠ c := fun z => by
  have h1 := h.1; have h2 := h.2.2.1; rw [z, h2] at h1; exact absurd h1 (by decide)
theorem Fs.ne2 {r : Rs} {a c b d : Nat} {n n' : Int} (h : Fs r a c n) (h' : Fs r b d n') : a ≠ d := fun z => by
  have h1 := h.1; have h2 := h'.2.2.1; rw [z, h2] at h1; exact absurd h1 (by decide)
theorem Fs.ne1 {r : Rs} {a c b d : Nat} {n n' : Int} (h : Fs r a c n) (h' : Fs r b d n') (hcd : c ≠ d) : a ≠ b := fun z => by
  have h1 := h.2.1; have h2 := h'.2.1; rw [z, h2] at h1; exact hcd h1.symm
theorem fg.kept {I I' : Im} {a c : Nat} {xs : List Int} (h : fg I a c xs) (e0 : I' a 1 = I a 1) (e1 : I' c = I c) : fg I' a c xs := ⟨e0.trans h.1, by rw [e1]; exact h.2⟩
theorem fg.ex {A : Nat → Int → Prop} {I I' : Im} {a c : Nat} {xs : List Int} (h : fg I a c xs) (e : Ex A I I') (h1 : ¬ A a 1) (h2 : ∀ k, ¬ A c k) : fg I' a c xs := h.kept (e a 1 h1) (e.row c h2)
theorem fg.get {I : Im} {a c : Nat} {xs : List Int} (h : fg I a c xs) {k : Nat} (hk : k < xs.length) : I c k = xs[k] := by
  have := h.2.get hk; rw [Int.zero_add] at this; exact this
theorem c_get {I : Im} {r : Rs} {a c : Nat} {n p : Int} {xs : List Int} {Q : Int → Hp → Prop} (s : Fs r a c n) (h : fg I a c xs) (hl : (xs.length : Int) ≤ n) (k : Q (if 0 ≤ p then xs.getD p.toNat (-1) else -1) (I, r)) : C_X2_get a p (I, r) Q := by
  obtain ⟨s1, s2, s3, s4⟩ := s
  apply G_X2_get
  unfold V_X2_get
  simp only [hK_p, hL_p, hI_p, hR_p, wI_p, cpI_p, hN_p, forall_eq, true_and, and_true, ne_eq, not_true_eq_false, not_false_eq_true, true_implies, false_implies, imp_false, implies_true, if_true, if_false, reduceCtorEq, s1, s2, s3, s4, h.1]
  refine ⟨fun c1 => ?_, fun c1 => ⟨fun c2 => ?_, fun c2 => ⟨by omega, ?_⟩⟩⟩
  · rw [if_neg (by omega)] at k; exact k
  · rw [if_pos (by omega), List.getD_eq_getElem?_getD, List.getElem?_eq_none (by omega)] at k; exact k
  · rw [if_pos (by omega)] at k
    have := h.2.at (i := p) (by omega) (by omega) (-1)
    rw [Int.zero_add] at this
    rw [this]; exact k
theorem c_set {I : Im} {r : Rs} {a c : Nat} {n p f : Int} {xs : List Int} {Q : Hp → Prop} (s : Fs r a c n) (h : fg I a c xs) (hl : (xs.length : Int) ≤ n) (hp : 0 ≤ p ∧ p < xs.length) (hf : -128 ≤ f ∧ f ≤ 127) (k : ∀ I', fg I' a c (xs.set p.toNat f) → Ex (aF a c) I I' → Q (I', r)) : C_X2_set a p f (I, r) Q := by
  have hac := s.ne
  obtain ⟨s1, s2, s3, s4⟩ := s
  apply G_X2_set
  unfold V_X2_set
  simp only [hK_p, hL_p, hI_p, hR_p, wI_p, cpI_p, hN_p, forall_eq, true_and, and_true, ne_eq, not_true_eq_false, not_false_eq_true, true_implies, false_implies, imp_false, implies_true, if_true, if_false, reduceCtorEq, s1, s2, s3, s4, h.1]
  refine ⟨fun c1 => absurd c1 (by omega), fun c1 => ⟨fun c2 => absurd c2 (by omega), fun c2 => ⟨by omega, by omega, k _ ⟨?_, ?_⟩ (fun b q hq => upI_ne (by omega))⟩⟩⟩
  · rw [upI_ne (by omega), h.1, List.length_set]
  · intro j v hj
    rw [List.getElem?_set] at hj
    rw [Int.zero_add]
    split at hj
    · rename_i hpj
      split at hj
      · cases hj
        rw [show (j : Int) = p by omega, upI_self]
      · cases hj
    · rw [upI_ne (by omega)]
      have := h.2 j v hj
      rw [Int.zero_add] at this; exact this
theorem c_add {I : Im} {r : Rs} {a c : Nat} {n f : Int} {xs : List Int} {Q : Int → Hp → Prop} (s : Fs r a c n) (h : fg I a c xs) (hl : (xs.length : Int) < n) (hn : n ≤ 1000000) (hf : -128 ≤ f ∧ f ≤ 127) (k : ∀ I', fg I' a c (xs ++ [f]) → Ex (aF a c) I I' → Q 1 (I', r)) : C_X2_add a f (I, r) Q := by
  have hac := s.ne
  obtain ⟨s1, s2, s3, s4⟩ := s
  apply G_X2_add
  unfold V_X2_add
  have e : upI I c (xs.length : Int) f a 1 = xs.length := by rw [upI_ne (by omega), h.1]
  simp only [hK_p, hL_p, hI_p, hR_p, wI_p, cpI_p, hN_p, forall_eq, true_and, and_true, ne_eq, not_true_eq_false, not_false_eq_true, true_implies, false_implies, imp_false, implies_true, if_true, if_false, reduceCtorEq, s1, s2, s3, s4, h.1, e]
  refine ⟨fun c1 => ⟨by omega, by omega, by omega, k _ ⟨?_, ?_⟩ (fun b q hq => by rw [upI_ne (by omega), upI_ne (by omega)])⟩, fun c1 => absurd hl c1⟩
  · rw [upI_self]; simp
  · refine h.2.snoc (fun q q0 q1 => ?_) ?_
    · rw [upI_ne (by omega), upI_ne (by omega)]
    · rw [upI_ne (by omega), Int.zero_add, upI_self]
theorem c_add_full {I : Im} {r : Rs} {a c : Nat} {n f : Int} {xs : List Int} {Q : Int → Hp → Prop} (s : Fs r a c n) (h : fg I a c xs) (hl : (xs.length : Int) = n) (k : Q 0 (I, r)) : C_X2_add a f (I, r) Q := by
  obtain ⟨s1, s2, s3, s4⟩ := s
  apply G_X2_add
  unfold V_X2_add
  simp only [hK_p, hL_p, hI_p, hR_p, wI_p, cpI_p, hN_p, forall_eq, true_and, and_true, ne_eq, not_true_eq_false, not_false_eq_true, true_implies, false_implies, imp_false, implies_true, if_true, if_false, reduceCtorEq, s1, s2, s3, s4, h.1]
  exact ⟨fun c1 => absurd c1 (by omega), fun c1 => k⟩
theorem take_snoc {xs : List Int} {t : Nat} (ht : t < xs.length) : xs.take (t + 1) = xs.take t ++ [xs[t]] := List.take_succ_eq_append_getElem ht
theorem c_addAll {I : Im} {r : Rs} {a c b d : Nat} {n n' : Int} {xs ys : List Int} {Q : Hp → Prop} (s : Fs r a c n) (s' : Fs r b d n') (hcd : c ≠ d) (h : fg I a c xs) (h' : fg I b d ys) (hl : (xs.length : Int) + ys.length ≤ n) (hl' : (ys.length : Int) ≤ n') (hn : n ≤ 1000000) (hf : figs ys) (k : ∀ I', fg I' a c (xs ++ ys) → Ex (aF a c) I I' → Q (I', r)) : C_X2_addAll a b (I, r) Q := by
  have e1 := s.ne
  have e2 := s'.ne
  have e3 := s.ne2 s'
  have e4 := s'.ne2 s
  have e5 := s.ne1 s' hcd
  have q' := s'
  obtain ⟨s1, s2, s3, s4⟩ := q'
  apply G_X2_addAll
  unfold V_X2_addAll
  refine Lp_X2_addAll_2_ind (fun x h => ∃ (t : Nat) (J : Im), x = t ∧ t ≤ ys.length ∧ h = (J, r) ∧ fg J a c (xs ++ ys.take t) ∧ Ex (aF a c) I J) (fun x _ => ys.length - x.toNat) ?_ _ _ ⟨0, I, rfl, Nat.zero_le _, rfl, by rw [List.take_zero, List.append_nil]; exact h, Ex.refl I⟩
  intro P x hh hI ih
  obtain ⟨t, J, rfl, t1, rfl, t2, t3⟩ := hI
  have hb : fg J b d ys := h'.ex t3 (by omega) (fun q => by omega)
  unfold BLp_X2_addAll_2
  simp only [hK_p, hL_p, hI_p, hR_p, wI_p, cpI_p, hN_p, forall_eq, true_and, and_true, ne_eq, not_true_eq_false, not_false_eq_true, true_implies, false_implies, imp_false, implies_true, if_true, if_false, reduceCtorEq, s1, s2, s3, s4, hb.1, s.1]
  refine ⟨fun c1 => ?_, fun c1 => ⟨by omega, ?_⟩⟩
  · have : t = ys.length := by omega
    rw [this, List.take_length] at t2
    exact k J t2 t3
  · have ht : t < ys.length := by omega
    have hv := hf _ (List.getElem_mem ht)
    rw [hb.get ht]
    refine c_add s t2 (by simp; omega) hn (by omega) (fun K hK xK => ⟨by omega, ih _ _ ⟨t + 1, K, by omega, by omega, rfl, ?_, t3.trans xK (fun _ _ z => z) (fun _ _ z => z)⟩ (by omega)⟩)
    rw [take_snoc ht, ← List.append_assoc]; exact hK
theorem c_cut {I : Im} {r : Rs} {a c : Nat} {n m : Int} {xs : List Int} {Q : Hp → Prop} (s : Fs r a c n) (h : fg I a c xs) (hl : (xs.length : Int) ≤ n) (hn : n ≤ 1000000) (hm : 0 ≤ m ∧ m ≤ xs.length) (k : ∀ I', fg I' a c (xs.take (xs.length - m.toNat)) → Ex (aF a c) I I' → Q (I', r)) : C_X2_cut a m (I, r) Q := by
  have hac := s.ne
  obtain ⟨s1, s2, s3, s4⟩ := s
  apply G_X2_cut
  unfold V_X2_cut
  simp only [hK_p, hL_p, hI_p, hR_p, wI_p, cpI_p, hN_p, forall_eq, true_and, and_true, ne_eq, not_true_eq_false, not_false_eq_true, true_implies, false_implies, imp_false, implies_true, if_true, if_false, reduceCtorEq, s1, s2, s3, s4, h.1]
  refine ⟨by omega, k _ ⟨?_, ?_⟩ (fun b q hq => upI_ne (by omega))⟩
  · rw [upI_self]; simp; omega
  · refine (h.2.take _).congr (fun q q0 q1 => upI_ne (by omega))
theorem c_start {I : Im} {r : Rs} {a c : Nat} {n m : Int} {Q : Hp → Prop} (s : Fs r a c n) (hm : m ≤ n ∨ 15360 ≤ n) (k : Q (upI I a 1 0, r)) : C_X2_startOver a m (I, r) Q := by
  obtain ⟨s1, s2, s3, s4⟩ := s
  apply G_X2_startOver
  unfold V_X2_startOver
  simp only [hK_p, hL_p, hI_p, hR_p, wI_p, cpI_p, hN_p, forall_eq, true_and, and_true, ne_eq, not_true_eq_false, not_false_eq_true, true_implies, false_implies, imp_false, implies_true, if_true, if_false, reduceCtorEq, s1, s2, s3, s4]
  exact ⟨fun _ => k, fun c1 => ⟨fun _ => k, fun c2 => absurd (hm.resolve_left c1) c2⟩⟩
theorem c_copyFrom {I : Im} {r : Rs} {a c b d : Nat} {n n' : Int} {ys : List Int} {Q : Hp → Prop} (s : Fs r a c n) (s' : Fs r b d n') (hcd : c ≠ d) (h' : fg I b d ys) (hl : (ys.length : Int) ≤ n) (hl' : (ys.length : Int) ≤ n') (k : ∀ I', fg I' a c ys → Ex (aF a c) I I' → Q (I', r)) : C_X2_copyFrom a b (I, r) Q := by
  have e1 := s.ne
  have e2 := s'.ne
  have e3 := s.ne2 s'
  have e4 := s'.ne2 s
  have e5 := s.ne1 s' hcd
  have q := s
  have q' := s'
  obtain ⟨s1, s2, s3, s4⟩ := q
  obtain ⟨t1, t2, t3, t4⟩ := q'
  apply G_X2_copyFrom
  unfold V_X2_copyFrom
  simp only [hK_p, hL_p, hI_p, hR_p, wI_p, cpI_p, hN_p, forall_eq, true_and, and_true, ne_eq, not_true_eq_false, not_false_eq_true, true_implies, false_implies, imp_false, implies_true, if_true, if_false, reduceCtorEq, s1, t1, h'.1]
  refine c_start s (Or.inl hl) ?_
  have f1 : upI I a 1 0 b 1 = ys.length := by rw [upI_ne (by omega), h'.1]
  have f2 : min (ys.length : Int) n = ys.length := by omega
  simp only [hK_p, hL_p, hI_p, hR_p, wI_p, cpI_p, hN_p, forall_eq, true_and, and_true, ne_eq, not_true_eq_false, not_false_eq_true, true_implies, false_implies, imp_false, implies_true, if_true, if_false, reduceCtorEq, s1, s2, s3, s4, t1, t2, t3, t4, f1, f2]
  refine ⟨by omega, k _ ⟨by rw [upI_self], h'.2.shift (fun q q0 q1 => ?_)⟩ (fun x q hq => ?_)⟩
  · rw [upI_ne (by omega), cpy_at, if_pos (by omega), upI_ne (by omega)]
    congr 1
    omega
  · rw [upI_ne (by omega), cpy_at, if_neg (by omega), upI_ne (by omega)]
theorem c_standsAt {I : Im} {r : Rs} {a c b d : Nat} {n n' : Int} {p : Nat} {xs ys : List Int} {Q : Int → Hp → Prop} (s : Fs r a c n) (s' : Fs r b d n') (h : fg I a c xs) (h' : fg I b d ys) (hl : (xs.length : Int) ≤ n) (hl' : (ys.length : Int) ≤ n') (hn : n ≤ 1000000) (hn' : n' ≤ 1000000) (hp : p ≤ 1000000) (hp2 : p ≤ xs.length ∨ 1 ≤ ys.length) (k : Q (if stnd xs p ys = true then 1 else 0) (I, r)) : C_X2_standsAt a p b (I, r) Q := by
  obtain ⟨s1, s2, s3, s4⟩ := s
  obtain ⟨t1, t2, t3, t4⟩ := s'
  have no : ¬ stnd xs p ys = true → Q 0 (I, r) := fun z => by rw [if_neg z] at k; exact k
  apply G_X2_standsAt
  unfold V_X2_standsAt
  simp only [hK_p, hL_p, hI_p, hR_p, wI_p, cpI_p, hN_p, forall_eq, true_and, and_true, ne_eq, not_true_eq_false, not_false_eq_true, true_implies, false_implies, imp_false, implies_true, if_true, if_false, reduceCtorEq, s1, s2, s3, s4, t1, t2, t3, t4, h.1, h'.1]
  refine ⟨fun c1 => absurd c1 (by omega), fun _ => ⟨by omega, fun c1 => ?_, fun c1 => no (fun z => c1 ?_)⟩⟩
  · refine Lp_X2_standsAt_21_ind (fun x h => ∃ t : Nat, x = t ∧ t ≤ ys.length ∧ h = (I, r) ∧ ∀ i : Nat, i < t → xs.getD (p + i) 0 = ys.getD i 0) (fun x _ => ys.length - x.toNat) ?_ _ _ ⟨0, rfl, Nat.zero_le _, rfl, fun i hi => absurd hi (by omega)⟩
    intro P x hh hI ih
    obtain ⟨t, rfl, u1, rfl, u2⟩ := hI
    unfold BLp_X2_standsAt_21
    simp only [hK_p, hL_p, hI_p, hR_p, wI_p, cpI_p, hN_p, forall_eq, true_and, and_true, ne_eq, not_true_eq_false, not_false_eq_true, true_implies, false_implies, imp_false, implies_true, if_true, if_false, reduceCtorEq, s1, s2, s3, s4, t1, t2, t3, t4, h.1, h'.1]
    refine ⟨fun c2 => ?_, fun c2 => ?_⟩
    · have ht : t = ys.length := by omega
      have : stnd xs p ys = true := by
        unfold stnd
        rw [decide_eq_true_eq]
        refine seg_eq (by simp; omega) (fun i hi => ?_)
        have hi2 : i < ys.length := by simp at hi; omega
        rw [← u2 i (by omega), List.getD_eq_getElem?_getD, List.getElem?_take, if_pos hi2, List.getElem?_drop, List.getD_eq_getElem?_getD]
      rw [if_pos this] at k
      exact k
    · have ht : t < ys.length := by omega
      have ra : I c ((p : Int) + t) = xs.getD (p + t) 0 := by
        have := h.2.getD (k := p + t) (by omega) 0
        rw [← this]; congr 1; omega
      have rb : I d t = ys.getD t 0 := by have := h'.2.getD ht 0; rw [Int.zero_add] at this; exact this
      rw [ra, rb]
      refine ⟨by omega, by omega, by omega, fun c3 => ⟨by omega, ih _ _ ⟨t + 1, by omega, by omega, rfl, fun i hi => ?_⟩ (by omega)⟩, fun c3 => no (fun z => c3 ?_)⟩
      · rcases (show i < t ∨ i = t by omega) with h1 | h1
        · exact u2 i h1
        · rw [h1]; exact c3
      · unfold stnd at z
        rw [decide_eq_true_eq] at z
        rw [← z, List.getD_eq_getElem?_getD, List.getD_eq_getElem?_getD, List.getElem?_take, if_pos ht, List.getElem?_drop]
  · unfold stnd at z
    rw [decide_eq_true_eq] at z
    have := congrArg List.length z
    simp at this
    omega
theorem stnd_0 {xs ys : List Int} (h : xs.length = ys.length) : stnd xs 0 ys = true ↔ xs = ys := by
  unfold stnd
  rw [decide_eq_true_eq, List.drop_zero, ← h, List.take_length]
theorem c_same {I : Im} {r : Rs} {a c b d : Nat} {n n' : Int} {xs ys : List Int} {Q : Int → Hp → Prop} (s : Fs r a c n) (s' : Fs r b d n') (h : fg I a c xs) (h' : fg I b d ys) (hl : (xs.length : Int) ≤ n) (hl' : (ys.length : Int) ≤ n') (hn : n ≤ 1000000) (hn' : n' ≤ 1000000) (k : Q (if xs = ys then 1 else 0) (I, r)) : C_X2_same a b (I, r) Q := by
  apply G_X2_same
  unfold V_X2_same
  simp only [hK_p, hL_p, hI_p, hR_p, wI_p, cpI_p, hN_p, forall_eq, true_and, and_true, ne_eq, not_true_eq_false, not_false_eq_true, true_implies, false_implies, imp_false, implies_true, if_true, if_false, reduceCtorEq, s.1, s'.1, h.1, h'.1]
  refine ⟨fun c1 => ?_, fun c1 => ?_⟩
  · rw [if_neg (fun z => c1 (by rw [z]))] at k; exact k
  · refine c_standsAt (p := 0) s s' h h' hl hl' hn hn' (by omega) (Or.inl (Nat.zero_le _)) ?_
    have st := stnd_0 (xs := xs) (ys := ys) (by omega)
    by_cases e : xs = ys
    · rw [if_pos e] at k
      rw [if_pos (st.mpr e)]
      exact ⟨fun z => absurd z (by decide), fun _ => k⟩
    · rw [if_neg e] at k
      rw [if_neg (fun z => e (st.mp z))]
      exact ⟨fun _ => k, fun z => absurd rfl z⟩
theorem c_countOf {I : Im} {r : Rs} {a c : Nat} {n f : Int} {xs : List Int} {Q : Int → Hp → Prop} (s : Fs r a c n) (h : fg I a c xs) (hl : (xs.length : Int) ≤ n) (hn : n ≤ 1000000) (k : Q (cnt f xs) (I, r)) : C_X2_countOf a f (I, r) Q := by
  obtain ⟨s1, s2, s3, s4⟩ := s
  apply G_X2_countOf
  unfold V_X2_countOf
  refine Lp_X2_countOf_4_ind (fun x2 x3 h => ∃ t : Nat, x3 = t ∧ t ≤ xs.length ∧ h = (I, r) ∧ x2 = (cnt f (xs.take t) : Nat)) (fun _ x3 _ => xs.length - x3.toNat) ?_ _ _ _ ⟨0, rfl, Nat.zero_le _, rfl, rfl⟩
  intro P x2 x3 hh hI ih
  obtain ⟨t, rfl, t1, rfl, rfl⟩ := hI
  have cl := cnt_le f (xs.take t)
  have cl2 : (xs.take t).length ≤ xs.length := by simp; omega
  unfold BLp_X2_countOf_4
  simp only [hK_p, hL_p, hI_p, hR_p, wI_p, cpI_p, hN_p, forall_eq, true_and, and_true, ne_eq, not_true_eq_false, not_false_eq_true, true_implies, false_implies, imp_false, implies_true, if_true, if_false, reduceCtorEq, s1, s2, s3, s4, h.1]
  refine ⟨fun c1 => ?_, fun c1 => ⟨by omega, ?_⟩⟩
  · have : t = xs.length := by omega
    rw [this, List.take_length]; exact k
  · have ht : t < xs.length := by omega
    have e : cnt f (xs.take (t + 1)) = cnt f (xs.take t) + cnt f [xs[t]] := by rw [take_snoc ht, cnt_app]
    have e1 : cnt f [xs[t]] = (if xs[t] = f then 1 else 0) := by simp [cnt]
    rw [h.get ht]
    refine ⟨fun c2 => ⟨by omega, ih _ _ _ ⟨t + 1, by omega, by omega, rfl, ?_⟩ (by omega)⟩, fun c2 => ⟨by omega, by omega, ih _ _ _ ⟨t + 1, by omega, by omega, rfl, ?_⟩ (by omega)⟩⟩
    · rw [e, e1, if_neg c2]; rfl
    · rw [e, e1, if_pos c2]; omega
theorem c_has {I : Im} {r : Rs} {a c : Nat} {n f : Int} {xs : List Int} {Q : Int → Hp → Prop} (s : Fs r a c n) (h : fg I a c xs) (hl : (xs.length : Int) ≤ n) (hn : n ≤ 1000000) (k : Q (if 0 < cnt f xs then 1 else 0) (I, r)) : C_X2_has a f (I, r) Q := by
  obtain ⟨s1, s2, s3, s4⟩ := s
  apply G_X2_has
  unfold V_X2_has
  refine Lp_X2_has_2_ind (fun x3 h => ∃ t : Nat, x3 = t ∧ t ≤ xs.length ∧ h = (I, r) ∧ cnt f (xs.take t) = 0) (fun x3 _ => xs.length - x3.toNat) ?_ _ _ ⟨0, rfl, Nat.zero_le _, rfl, rfl⟩
  intro P x3 hh hI ih
  obtain ⟨t, rfl, t1, rfl, t2⟩ := hI
  unfold BLp_X2_has_2
  simp only [hK_p, hL_p, hI_p, hR_p, wI_p, cpI_p, hN_p, forall_eq, true_and, and_true, ne_eq, not_true_eq_false, not_false_eq_true, true_implies, false_implies, imp_false, implies_true, if_true, if_false, reduceCtorEq, s1, s2, s3, s4, h.1]
  refine ⟨fun c1 => ?_, fun c1 => ⟨by omega, ?_⟩⟩
  · have : t = xs.length := by omega
    rw [this, List.take_length] at t2
    rw [if_neg (by omega)] at k; exact k
  · have ht : t < xs.length := by omega
    have e : cnt f (xs.take (t + 1)) = cnt f (xs.take t) + cnt f [xs[t]] := by rw [take_snoc ht, cnt_app]
    have e1 : cnt f [xs[t]] = (if xs[t] = f then 1 else 0) := by simp [cnt]
    rw [h.get ht]
    refine ⟨fun c2 => ⟨by omega, ih _ _ ⟨t + 1, by omega, by omega, rfl, by rw [e, e1, if_neg c2, t2]⟩ (by omega)⟩, fun c2 => ?_⟩
    rw [e1, if_pos c2] at e
    have : cnt f xs = cnt f (xs.take (t + 1)) + cnt f (xs.drop (t + 1)) := by rw [← cnt_app, List.take_append_drop]
    rw [if_pos (by omega)] at k
    exact k
