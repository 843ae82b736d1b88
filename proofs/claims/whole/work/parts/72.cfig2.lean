/-! COMPONENT, part 2: figures, counted and searched -/
theorem c_unlike {I : Im} {r : Rs} {a c : Nat} {n : Int} {xs : List Int} {Q : Int → Hp → Prop} (s : Fs r a c n) (h : fg I a c xs) (hl : (xs.length : Int) ≤ n) (hn : n ≤ 1000000) (k : Q (unlN xs 10) (I, r)) : C_X2_unlike a (I, r) Q := by
  have rng : ∀ u : Nat, 0 ≤ unlN xs u ∧ unlN xs u ≤ u := by
    intro u
    induction u with
    | zero => exact ⟨Int.le_refl _, Int.le_refl _⟩
    | succ u ih =>
      show 0 ≤ unlN xs u + (if 0 < cnt u xs then 1 else 0) ∧ unlN xs u + (if 0 < cnt u xs then 1 else 0) ≤ ((u + 1 : Nat) : Int)
      split <;> omega
  apply G_X2_unlike
  unfold V_X2_unlike
  refine Lp_X2_unlike_4_ind (fun x1 x2 h => ∃ u : Nat, x2 = u ∧ u ≤ 10 ∧ h = (I, r) ∧ x1 = unlN xs u) (fun _ x2 _ => 10 - x2.toNat) ?_ _ _ _ ⟨0, rfl, by omega, rfl, rfl⟩
  intro P x1 x2 hh hI ih
  obtain ⟨u, rfl, u1, rfl, rfl⟩ := hI
  have rg := rng u
  have st : unlN xs (u + 1) = unlN xs u + (if 0 < cnt u xs then 1 else 0) := rfl
  unfold BLp_X2_unlike_4
  refine ⟨fun c1 => ?_, fun c1 => ⟨s.1, c_has s h hl hn ?_⟩⟩
  · have : u = 10 := by omega
    subst this; exact k
  · by_cases e : 0 < cnt u xs
    · rw [if_pos e] at st ⊢
      exact ⟨fun z => absurd z (by decide), fun _ => ⟨by omega, by omega, ih _ _ _ ⟨u + 1, by omega, by omega, rfl, st.symm⟩ (by omega)⟩⟩
    · rw [if_neg e] at st ⊢
      exact ⟨fun _ => ⟨by omega, ih _ _ _ ⟨u + 1, by omega, by omega, rfl, by omega⟩ (by omega)⟩, fun z => absurd rfl z⟩
def pv (xs : List Int) (u : Nat) : Int := if u = 0 then -1 else xs.getD (u - 1) (-1)
theorem pv_s {xs : List Int} {u : Nat} (hu : u < xs.length) : pv xs (u + 1) = xs[u] := by
  unfold pv
  rw [if_neg (by omega), Nat.add_sub_cancel, List.getD_eq_getElem?_getD, List.getElem?_eq_getElem hu]; rfl
theorem c_pv {I : Im} {r : Rs} {a c : Nat} {n : Int} {u : Nat} {xs : List Int} {Q : Int → Hp → Prop} (s : Fs r a c n) (h : fg I a c xs) (hl : (xs.length : Int) ≤ n) (k : Q (pv xs u) (I, r)) : C_X2_get a ((u : Int) - 1) (I, r) Q := by
  refine c_get s h hl ?_
  unfold pv at k
  by_cases e : u = 0
  · rw [if_pos e] at k; rw [if_neg (by omega)]; exact k
  · rw [if_neg e] at k; rw [if_pos (by omega), show ((u : Int) - 1).toNat = u - 1 by omega]; exact k
theorem c_here {I : Im} {r : Rs} {a c : Nat} {n : Int} {u : Nat} {xs : List Int} {Q : Int → Hp → Prop} (s : Fs r a c n) (h : fg I a c xs) (hl : (xs.length : Int) ≤ n) (hu : u < xs.length) (k : Q xs[u] (I, r)) : C_X2_get a (u : Int) (I, r) Q := by
  refine c_get s h hl ?_
  rw [if_pos (by omega), Int.toNat_natCast, List.getD_eq_getElem?_getD, List.getElem?_eq_getElem hu]; exact k
theorem nRuns_rng : ∀ (xs : List Int) (p : Int), 0 ≤ nRuns p xs ∧ nRuns p xs ≤ xs.length
  | [], p => ⟨Int.le_refl _, Int.le_refl _⟩
  | x :: xs, p => by
    have := nRuns_rng xs x
    show 0 ≤ (if x = p then 0 else 1) + nRuns x xs ∧ (if x = p then 0 else 1) + nRuns x xs ≤ ((xs.length + 1 : Nat) : Int)
    split <;> omega
theorem c_runs {I : Im} {r : Rs} {a c : Nat} {n : Int} {xs : List Int} {Q : Int → Hp → Prop} (s : Fs r a c n) (h : fg I a c xs) (hl : (xs.length : Int) ≤ n) (hn : n ≤ 1000000) (k : Q (nRuns (-1) xs) (I, r)) : C_X2_runs a (I, r) Q := by
  have rg := nRuns_rng xs (-1)
  apply G_X2_runs
  unfold V_X2_runs
  refine Lp_X2_runs_4_ind (fun x1 x2 h => ∃ u : Nat, x2 = u ∧ u ≤ xs.length ∧ h = (I, r) ∧ 0 ≤ x1 ∧ x1 + nRuns (pv xs u) (xs.drop u) = nRuns (-1) xs) (fun _ x2 _ => xs.length - x2.toNat) ?_ _ _ _ ⟨0, rfl, Nat.zero_le _, rfl, Int.le_refl _, by rw [Int.zero_add]; rfl⟩
  intro P x1 x2 hh hI ih
  obtain ⟨u, rfl, u1, rfl, u2, u3⟩ := hI
  unfold BLp_X2_runs_4
  simp only [hK_p, hL_p, hI_p, hR_p, wI_p, cpI_p, hN_p, forall_eq, true_and, and_true, ne_eq, not_true_eq_false, not_false_eq_true, true_implies, false_implies, imp_false, implies_true, if_true, if_false, reduceCtorEq, s.1, h.1]
  refine ⟨fun c1 => ?_, fun c1 => ?_⟩
  · rw [List.drop_eq_nil_of_le (by omega)] at u3
    have e : x1 = nRuns (-1) xs := by rw [← u3]; exact (Int.add_zero _).symm
    rw [e]; exact k
  · have hu : u < xs.length := by omega
    have r2 := nRuns_rng (xs.drop (u + 1)) xs[u]
    rw [drop_cons hu] at u3
    have u3 : x1 + ((if xs[u] = pv xs u then 0 else 1) + nRuns xs[u] (xs.drop (u + 1))) = nRuns (-1) xs := u3
    refine c_here s h hl hu ⟨by omega, s.1, c_pv s h hl ⟨fun c2 => ?_, fun c2 => ?_⟩⟩
    · rw [if_pos c2] at u3
      exact ⟨by omega, ih _ _ _ ⟨u + 1, by omega, by omega, rfl, u2, by rw [pv_s hu]; omega⟩ (by omega)⟩
    · rw [if_neg c2] at u3
      exact ⟨by omega, by omega, ih _ _ _ ⟨u + 1, by omega, by omega, rfl, by omega, by rw [pv_s hu]; omega⟩ (by omega)⟩
/-- how many figures of a row are like x, from its first on -/
def rnL (x : Int) : List Int → Nat
  | [] => 0
  | y :: ys => if y = x then rnL x ys + 1 else 0
def rnD (x : Int) : List Int → List Int
  | [] => []
  | y :: ys => if y = x then rnD x ys else y :: ys
theorem rnL_le (x : Int) : ∀ ys : List Int, rnL x ys ≤ ys.length
  | [] => Nat.le_refl 0
  | y :: ys => by
    have := rnL_le x ys
    show (if y = x then rnL x ys + 1 else 0) ≤ ys.length + 1
    split <;> omega
theorem c_runFrom {I : Im} {r : Rs} {a c : Nat} {n : Int} {p : Nat} {xs : List Int} {Q : Int → Hp → Prop} (s : Fs r a c n) (h : fg I a c xs) (hl : (xs.length : Int) ≤ n) (hn : n ≤ 1000000) (hp : p < xs.length) (k : Q (rnL xs[p] (xs.drop p) : Nat) (I, r)) : C_X2_runFrom a p (I, r) Q := by
  have rg := rnL_le xs[p] (xs.drop p)
  have rg2 : (xs.drop p).length ≤ xs.length := by simp
  apply G_X2_runFrom
  unfold V_X2_runFrom
  refine Lp_X2_runFrom_4_ind (fun x2 x3 h => ∃ u : Nat, x3 = ((p + u : Nat) : Int) ∧ p + u ≤ xs.length ∧ h = (I, r) ∧ x2 = u ∧ rnL xs[p] (xs.drop p) = u + rnL xs[p] (xs.drop (p + u))) (fun _ x3 _ => xs.length - x3.toNat) ?_ _ _ _ ⟨0, rfl, by omega, rfl, rfl, by rw [Nat.zero_add, Nat.add_zero]⟩
  intro P x2 x3 hh hI ih
  obtain ⟨u, rfl, u1, rfl, rfl, u2⟩ := hI
  unfold BLp_X2_runFrom_4
  simp only [hK_p, hL_p, hI_p, hR_p, wI_p, cpI_p, hN_p, forall_eq, true_and, and_true, ne_eq, not_true_eq_false, not_false_eq_true, true_implies, false_implies, imp_false, implies_true, if_true, if_false, reduceCtorEq, s.1, h.1]
  refine ⟨fun c1 => ?_, fun c1 => ?_⟩
  · rw [List.drop_eq_nil_of_le (show xs.length ≤ p + u by omega)] at u2
    have e : rnL xs[p] (xs.drop p) = u := u2
    rw [e] at k; exact k
  · have hu : p + u < xs.length := by omega
    rw [drop_cons hu] at u2
    have u2 : rnL xs[p] (xs.drop p) = u + (if xs[p + u] = xs[p] then rnL xs[p] (xs.drop (p + u + 1)) + 1 else 0) := u2
    refine c_here s h hl hu ⟨s.1, c_here s h hl hp ⟨fun c2 => ?_, fun c2 => ?_⟩⟩
    · rw [if_neg c2] at u2
      rw [u2] at k; exact k
    · rw [if_pos c2] at u2
      exact ⟨by omega, by omega, ih _ _ _ ⟨u + 1, by omega, by omega, rfl, by omega, by rw [show p + (u + 1) = p + u + 1 by omega]; omega⟩ (by omega)⟩
theorem lgS_run : ∀ (ys : List Int) (b w run p : Int), run ≤ b → ∃ run', lgS b w run p ys = if run + (rnL p ys : Nat) > b then lgS (run + (rnL p ys : Nat)) p run' p (rnD p ys) else lgS b w run' p (rnD p ys)
  | [], b, w, run, p, h => ⟨run, by
    show lgS b w run p [] = if run + ((0 : Nat) : Int) > b then _ else lgS b w run p []
    rw [if_neg (by omega)]⟩
  | y :: ys, b, w, run, p, h => by
    by_cases e : y = p
    · subst e
      have eL : rnL y (y :: ys) = rnL y ys + 1 := if_pos rfl
      have eD : rnD y (y :: ys) = rnD y ys := if_pos rfl
      have eS : lgS b w run y (y :: ys) = if run + 1 > b then lgS (run + 1) y (run + 1) y ys else lgS b w (run + 1) y ys := if_pos rfl
      rw [eL, eD, eS]
      by_cases c : run + 1 > b
      · rw [if_pos c]
        obtain ⟨run', ih⟩ := lgS_run ys (run + 1) y (run + 1) y (Int.le_refl _)
        refine ⟨run', ?_⟩
        rw [ih, if_pos (show run + ((rnL y ys + 1 : Nat) : Int) > b by omega), show run + ((rnL y ys + 1 : Nat) : Int) = run + 1 + (rnL y ys : Nat) by omega]
        by_cases c2 : run + 1 + ((rnL y ys : Nat) : Int) > run + 1
        · rw [if_pos c2]
        · rw [if_neg c2, show run + 1 + ((rnL y ys : Nat) : Int) = run + 1 by omega]
      · rw [if_neg c]
        obtain ⟨run', ih⟩ := lgS_run ys b w (run + 1) y (by omega)
        refine ⟨run', ?_⟩
        rw [ih, show run + ((rnL y ys + 1 : Nat) : Int) = run + 1 + (rnL y ys : Nat) by omega]
    · have eL : rnL p (y :: ys) = 0 := if_neg e
      have eD : rnD p (y :: ys) = y :: ys := if_neg e
      rw [eL, eD]
      exact ⟨run, by rw [if_neg (by omega)]⟩
/-- at a new run, whose length is its own -/
theorem lgS_new {x : Int} {ys : List Int} {b w run p : Int} (hx : x ≠ p) (hb : b = -1 ∨ 1 ≤ b) : ∃ run', lgS b w run p (x :: ys) = if ((rnL x ys + 1 : Nat) : Int) > b then lgS ((rnL x ys + 1 : Nat) : Int) x run' x (rnD x ys) else lgS b w run' x (rnD x ys) := by
  have eS : lgS b w run p (x :: ys) = if 1 > b then lgS 1 x 1 x ys else lgS b w 1 x ys := if_neg hx
  rw [eS]
  by_cases c : 1 > b
  · rw [if_pos c]
    obtain ⟨run', ih⟩ := lgS_run ys 1 x 1 x (Int.le_refl _)
    refine ⟨run', ?_⟩
    rw [ih, if_pos (show ((rnL x ys + 1 : Nat) : Int) > b by omega), show ((rnL x ys + 1 : Nat) : Int) = 1 + (rnL x ys : Nat) by omega]
    by_cases c2 : 1 + ((rnL x ys : Nat) : Int) > 1
    · rw [if_pos c2]
    · rw [if_neg c2, show 1 + ((rnL x ys : Nat) : Int) = 1 by omega]
  · rw [if_neg c]
    obtain ⟨run', ih⟩ := lgS_run ys b w 1 x (by omega)
    refine ⟨run', ?_⟩
    rw [ih, show ((rnL x ys + 1 : Nat) : Int) = 1 + (rnL x ys : Nat) by omega]
theorem c_longStart {I : Im} {r : Rs} {a c : Nat} {n : Int} {xs : List Int} {Q : Int → Hp → Prop} (s : Fs r a c n) (h : fg I a c xs) (hl : (xs.length : Int) ≤ n) (hn : n ≤ 1000000) (hf : figs xs)
    (k0 : lgS (-1) (-1) 0 (-1) xs = (-1, -1) → Q (-1) (I, r))
    (k1 : ∀ (p : Nat) (hp : p < xs.length), lgS (-1) (-1) 0 (-1) xs = (((rnL xs[p] (xs.drop p) : Nat) : Int), xs[p]) → Q p (I, r)) : C_X2_longestRunStart a (I, r) Q := by
  apply G_X2_longestRunStart
  unfold V_X2_longestRunStart
  have z0 : rnD (-1) xs = xs := by
    cases xs with
    | nil => rfl
    | cons y ys => exact if_neg (fun z => by have := hf y (List.mem_cons_self ..); omega)
  refine Lp_X2_longestRunStart_6_ind (fun x1 x2 x3 h => ∃ u : Nat, x3 = u ∧ u ≤ xs.length ∧ h = (I, r) ∧ ∃ run, (x1 = -1 ∧ x2 = 0 ∧ u = 0 ∨ ∃ (p : Nat) (hp : p < xs.length), x1 = p ∧ x2 = (rnL xs[p] (xs.drop p) : Nat) ∧ 1 ≤ x2 ∧ u ≠ 0) ∧ lgS (-1) (-1) 0 (-1) xs = lgS (if x1 = -1 then -1 else x2) (if x1 = -1 then -1 else xs.getD x1.toNat 0) run (pv xs u) (rnD (pv xs u) (xs.drop u))) (fun _ _ x3 _ => xs.length - x3.toNat) ?_ _ _ _ _ ⟨0, rfl, Nat.zero_le _, rfl, 0, Or.inl ⟨rfl, rfl, rfl⟩, by rw [if_pos rfl, if_pos rfl]; show _ = lgS (-1) (-1) 0 (-1) (rnD (-1) xs); rw [z0]⟩
  intro P x1 x2 x3 hh hI ih
  obtain ⟨u, rfl, u1, rfl, run, u2, u3⟩ := hI
  unfold BLp_X2_longestRunStart_6
  simp only [hK_p, hL_p, hI_p, hR_p, wI_p, cpI_p, hN_p, forall_eq, true_and, and_true, ne_eq, not_true_eq_false, not_false_eq_true, true_implies, false_implies, imp_false, implies_true, if_true, if_false, reduceCtorEq, s.1, h.1]
  refine ⟨fun c1 => ?_, fun c1 => ?_⟩
  · rw [List.drop_eq_nil_of_le (by omega)] at u3
    have u3 : lgS (-1) (-1) 0 (-1) xs = (if x1 = -1 then -1 else x2, if x1 = -1 then -1 else xs.getD x1.toNat 0) := u3
    rcases u2 with ⟨z1, z2, z3⟩ | ⟨p, hp, z1, z2, z3, z4⟩
    · rw [if_pos z1, if_pos z1] at u3
      rw [z1]; exact k0 u3
    · rw [if_neg (by omega), if_neg (by omega), z1, z2, Int.toNat_natCast, List.getD_eq_getElem?_getD, List.getElem?_eq_getElem hp] at u3
      rw [z1]; exact k1 p hp u3
  · have hu : u < xs.length := by omega
    rw [drop_cons hu] at u3
    have hrl : rnL xs[u] (xs.drop u) = rnL xs[u] (xs.drop (u + 1)) + 1 := by rw [drop_cons hu]; exact if_pos rfl
    refine c_here s h hl hu ⟨by omega, s.1, c_pv s h hl ⟨fun c2 => ?_, fun c2 => ⟨s.1, c_runFrom s h hl hn hu ?_⟩⟩⟩
    · -- inside a run
      unfold J_X2_longestRunStart_38
      have e : rnD (pv xs u) (xs[u] :: xs.drop (u + 1)) = rnD (pv xs u) (xs.drop (u + 1)) := if_pos c2
      have hu0 : u ≠ 0 := by
        intro z
        subst z
        have := hf _ (List.getElem_mem hu)
        have e2 : pv xs 0 = -1 := rfl
        rw [e2] at c2; omega
      rw [e] at u3
      rcases u2 with ⟨z1, z2, z3⟩ | ⟨p, hp, z1, z2, z3, z4⟩
      · exact absurd z3 hu0
      · refine ⟨fun c3 => ⟨by omega, ih _ _ _ _ ⟨u + 1, by omega, by omega, rfl, run, Or.inr ⟨p, hp, z1, z2, z3, by omega⟩, by rw [pv_s hu, c2]; exact u3⟩ (by omega)⟩, fun c3 => absurd (by omega) c3⟩
    · unfold J_X2_longestRunStart_38
      have e : rnD (pv xs u) (xs[u] :: xs.drop (u + 1)) = xs[u] :: xs.drop (u + 1) := if_neg c2
      rw [e] at u3
      obtain ⟨run', hn'⟩ := lgS_new (ys := xs.drop (u + 1)) (b := if x1 = -1 then -1 else x2) (w := if x1 = -1 then -1 else xs.getD x1.toNat 0) (run := run) c2 (by
        rcases u2 with ⟨z1, z2, z3⟩ | ⟨p, hp, z1, z2, z3, z4⟩
        · exact Or.inl (if_pos z1)
        · exact Or.inr (by rw [if_neg (by omega)]; exact z3))
      rw [hn', ← hrl] at u3
      have gt : (((rnL xs[u] (xs.drop u) : Nat) : Int) > if x1 = -1 then -1 else x2) ↔ ¬ ((rnL xs[u] (xs.drop u) : Nat) : Int) ≤ x2 := by
        rcases u2 with ⟨z1, z2, z3⟩ | ⟨p, hp, z1, z2, z3, z4⟩
        · rw [if_pos z1]; omega
        · rw [if_neg (by omega)]; omega
      refine ⟨fun c3 => ⟨by omega, ih _ _ _ _ ⟨u + 1, by omega, by omega, rfl, run', ?_, ?_⟩ (by omega)⟩, fun c3 => ⟨by omega, ih _ _ _ _ ⟨u + 1, by omega, by omega, rfl, run', Or.inr ⟨u, hu, rfl, rfl, by omega, by omega⟩, ?_⟩ (by omega)⟩⟩
      · rcases u2 with ⟨z1, z2, z3⟩ | ⟨p, hp, z1, z2, z3, z4⟩
        · omega
        · exact Or.inr ⟨p, hp, z1, z2, z3, by omega⟩
      · rw [if_neg (fun z => gt.mp z c3)] at u3
        rw [pv_s hu]; exact u3
      · rw [if_pos (gt.mpr c3)] at u3
        rw [pv_s hu, u3, if_neg (by omega), if_neg (by omega), Int.toNat_natCast, List.getD_eq_getElem?_getD, List.getElem?_eq_getElem hu]; rfl
theorem c_longest {I : Im} {r : Rs} {a c : Nat} {n : Int} {xs : List Int} {Q : Int → Hp → Prop} (s : Fs r a c n) (h : fg I a c xs) (hl : (xs.length : Int) ≤ n) (hn : n ≤ 1000000) (hf : figs xs) (k : Q (lgS (-1) (-1) 0 (-1) xs).1 (I, r)) : C_X2_longestRun a (I, r) Q := by
  apply G_X2_longestRun
  unfold V_X2_longestRun
  refine ⟨s.1, c_longStart s h hl hn hf (fun e => ⟨fun z => absurd rfl z, fun _ => ?_⟩) (fun p hp e => ⟨fun _ => ⟨s.1, c_runFrom s h hl hn hp ?_⟩, fun z => absurd z (by omega)⟩)⟩
  · rw [e] at k; exact k
  · rw [e] at k; exact k
theorem c_placeOf {I : Im} {r : Rs} {a c b d : Nat} {n n' : Int} {xs ys : List Int} {Q : Int → Hp → Prop} (s : Fs r a c n) (s' : Fs r b d n') (h : fg I a c xs) (h' : fg I b d ys) (hl : (xs.length : Int) ≤ n) (hl' : (ys.length : Int) ≤ n') (hn : n ≤ 1000000) (hn' : n' ≤ 1000000) (hy : 1 ≤ ys.length) (k : Q (inN xs ys xs.length 0) (I, r)) : C_X2_placeOf a b (I, r) Q := by
  have no : ∀ (f u : Nat), xs.length < u + ys.length → inN xs ys f u = -1 := by
    intro f
    induction f with
    | zero => intro u _; rfl
    | succ f ih =>
      intro u hu
      show (if stnd xs u ys = true then (u : Int) else inN xs ys f (u + 1)) = -1
      rw [if_neg (fun z => ?_)]
      · exact ih (u + 1) (by omega)
      · unfold stnd at z
        rw [decide_eq_true_eq] at z
        have := congrArg List.length z
        simp at this
        omega
  apply G_X2_placeOf
  unfold V_X2_placeOf
  refine Lp_X2_placeOf_2_ind (fun x h => ∃ u : Nat, x = u ∧ u ≤ xs.length ∧ h = (I, r) ∧ inN xs ys xs.length 0 = inN xs ys (xs.length - u) u) (fun x _ => xs.length - x.toNat) ?_ _ _ ⟨0, rfl, Nat.zero_le _, rfl, rfl⟩
  intro P x hh hI ih
  obtain ⟨u, rfl, u1, rfl, u2⟩ := hI
  unfold BLp_X2_placeOf_2
  simp only [hK_p, hL_p, hI_p, hR_p, wI_p, cpI_p, hN_p, forall_eq, true_and, and_true, ne_eq, not_true_eq_false, not_false_eq_true, true_implies, false_implies, imp_false, implies_true, if_true, if_false, reduceCtorEq, s.1, s'.1, h.1, h'.1]
  refine ⟨by omega, fun c1 => ?_, fun c1 => c_standsAt s s' h h' hl hl' hn hn' (by omega) (Or.inr hy) ?_⟩
  · rw [u2, no _ _ (by omega)] at k; exact k
  · obtain ⟨v, hv⟩ : ∃ v, xs.length - u = v + 1 := ⟨xs.length - u - 1, by omega⟩
    rw [hv] at u2
    have u2 : inN xs ys xs.length 0 = if stnd xs u ys = true then (u : Int) else inN xs ys v (u + 1) := u2
    by_cases e : stnd xs u ys = true
    · rw [if_pos e] at u2 ⊢
      rw [u2] at k
      exact ⟨fun z => absurd z (by decide), fun _ => k⟩
    · rw [if_neg e] at u2 ⊢
      exact ⟨fun _ => ⟨by omega, ih _ _ ⟨u + 1, by omega, by omega, rfl, by rw [u2]; congr 1; omega⟩ (by omega)⟩, fun z => absurd rfl z⟩
theorem c_reverse {I : Im} {r : Rs} {a c : Nat} {n : Int} {xs : List Int} {Q : Hp → Prop} (s : Fs r a c n) (h : fg I a c xs) (hl : (xs.length : Int) ≤ n) (hn : n ≤ 1000000) (hf : figs xs) (k : ∀ I', fg I' a c xs.reverse → Ex (aF a c) I I' → Q (I', r)) : C_X2_reverse a (I, r) Q := by
  have hac := s.ne
  have rgx : ∀ i : Nat, i < xs.length → 0 ≤ xs.getD i 0 ∧ xs.getD i 0 ≤ 9 := fun i hi => hf.at hi
  obtain ⟨s1, s2, s3, s4⟩ := s
  apply G_X2_reverse
  unfold V_X2_reverse
  refine Lp_X2_reverse_2_ind (fun x h => ∃ (u : Nat) (J : Im), x = u ∧ 2 * u ≤ xs.length ∧ h = (J, r) ∧ J a 1 = xs.length ∧ (∀ i : Nat, i < xs.length → J c i = xs.getD (if i < u ∨ xs.length - u ≤ i then xs.length - 1 - i else i) 0) ∧ Ex (aF a c) I J) (fun x _ => xs.length - x.toNat) ?_ _ _ ⟨0, I, rfl, by omega, rfl, h.1, fun i hi => ?_, Ex.refl I⟩
  · intro P x hh hI ih
    obtain ⟨u, J, rfl, u1, rfl, u2, u3, u4⟩ := hI
    unfold BLp_X2_reverse_2
    have f1 : ∀ v w : Int, upI J c v w a 1 = xs.length := fun v w => by rw [upI_ne (by omega), u2]
    simp only [hK_p, hL_p, hI_p, hR_p, wI_p, cpI_p, hN_p, forall_eq, true_and, and_true, ne_eq, not_true_eq_false, not_false_eq_true, true_implies, false_implies, imp_false, implies_true, if_true, if_false, reduceCtorEq, s1, s2, s3, s4, u2, f1]
    refine ⟨by omega, fun c1 => ?_, fun c1 => ?_⟩
    · refine k J ⟨by rw [u2, List.length_reverse], fun i v hv => ?_⟩ u4
      have hi := (List.getElem?_eq_some_iff.mp hv).1
      rw [List.length_reverse] at hi
      rw [Int.zero_add, u3 i hi]
      rw [List.getElem?_reverse hi] at hv
      have e : (if i < u ∨ xs.length - u ≤ i then xs.length - 1 - i else i) = xs.length - 1 - i := by
        split
        · rfl
        · omega
      rw [e, List.getD_eq_getElem?_getD, hv]; rfl
    · have hu : 2 * u + 1 < xs.length := by omega
      have ra : J c u = xs.getD u 0 := by rw [u3 u (by omega), if_neg (by omega)]
      have rb : J c ((xs.length : Int) - 1 - u) = xs.getD (xs.length - 1 - u) 0 := by
        rw [show (xs.length : Int) - 1 - u = ((xs.length - 1 - u : Nat) : Int) by omega, u3 _ (by omega), if_neg (by omega)]
      have r1 := rgx u (by omega)
      have r2 := rgx (xs.length - 1 - u) (by omega)
      rw [ra, rb]
      refine ⟨by omega, by omega, by omega, by omega, by omega, by omega, by omega, by omega, by omega, ih _ _ ⟨u + 1, _, by omega, by omega, rfl, by rw [upI_ne (by omega), f1], fun i hi => ?_, fun x q hq => by rw [upI_ne (by omega), upI_ne (by omega), u4 x q hq]⟩ (by omega)⟩
      rcases (show i = xs.length - 1 - u ∨ i = u ∨ (i ≠ u ∧ i ≠ xs.length - 1 - u) by omega) with z | z | z
      · rw [show (i : Int) = (xs.length : Int) - 1 - u by omega, upI_self, if_pos (by omega), z]; congr 1; omega
      · rw [upI_ne (by omega), show (i : Int) = (u : Int) by omega, upI_self, if_pos (by omega), z]
      · rw [upI_ne (by omega), upI_ne (by omega), u3 i hi]
        congr 1
        by_cases e : i < u ∨ xs.length - u ≤ i
        · rw [if_pos e, if_pos (by omega)]
        · rw [if_neg e, if_neg (by omega)]
  · rw [if_neg (by omega)]
    have := h.2.getD hi 0
    rw [Int.zero_add] at this; exact this
