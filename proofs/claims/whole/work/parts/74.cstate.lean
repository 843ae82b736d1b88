/-! COMPONENT, part 4: a state -/
def Ss (r : Rs) (a : Nat) : Prop := rK r a = 7 ∧ rR r a 0 = a + 1 ∧ Fs r (a + 1) (a + 2) 60 ∧ (rR r a 1 = a + 3 ∧ rK r (a + 3) = 13 ∧ rL r (a + 3) = 20) ∧ (rR r a 2 = a + 4 ∧ rK r (a + 4) = 13 ∧ rL r (a + 4) = 20)
def okB (I : Im) (a : Nat) : Prop := ∀ q : Int, 0 ≤ q → q < 20 → (-128 ≤ I (a + 3) q ∧ I (a + 3) q ≤ 127) ∧ (-128 ≤ I (a + 4) q ∧ I (a + 4) q ≤ 127)
def cSt (I : Im) (a : Nat) (n : NS) : Prop := fg I (a + 1) (a + 2) n.1 ∧ I a 3 = n.2.2.length ∧ I a 4 = n.2.1 ∧ Seg (I (a + 3)) 0 (n.2.2.map (·.1)) ∧ Seg (I (a + 4)) 0 (n.2.2.map (·.2)) ∧ okB I a
abbrev aS (a : Nat) : Nat → Int → Prop := fun x _ => a ≤ x ∧ x < a + 5
theorem cSt.kept {I I' : Im} {a : Nat} {n : NS} (h : cSt I a n) (e : ∀ x : Nat, a ≤ x → x < a + 5 → I' x = I x) : cSt I' a n := by
  obtain ⟨h1, h2, h3, h4, h5, h6⟩ := h
  have e0 := e a (by omega) (by omega)
  have e1 := e (a + 1) (by omega) (by omega)
  have e2 := e (a + 2) (by omega) (by omega)
  have e3 := e (a + 3) (by omega) (by omega)
  have e4 := e (a + 4) (by omega) (by omega)
  refine ⟨h1.kept (by rw [e1]) e2, by rw [e0]; exact h2, by rw [e0]; exact h3, by rw [e3]; exact h4, by rw [e4]; exact h5, ?_⟩
  unfold okB
  rw [e3, e4]; exact h6
theorem cSt.ex {A : Nat → Int → Prop} {I I' : Im} {a : Nat} {n : NS} (h : cSt I a n) (e : Ex A I I') (hA : ∀ x k, a ≤ x → x < a + 5 → ¬ A x k) : cSt I' a n := h.kept (fun x h1 h2 => e.row x (fun k => hA x k h1 h2))
theorem c_copySt {I : Im} {r : Rs} {a b : Nat} {n : NS} {Q : Hp → Prop} (s : Ss r a) (s' : Ss r b) (hab : a + 5 ≤ b ∨ b + 5 ≤ a) (h : cSt I b n) (ok : NSok n) (k : ∀ I', cSt I' a n → Ex (aS a) I I' → Q (I', r)) : C_X8_copyFrom a b (I, r) Q := by
  obtain ⟨h1, h2, h3, h4, h5, h6⟩ := h
  obtain ⟨s1, s2, s3, ⟨s4, s5, s6⟩, s7, s8, s9⟩ := s
  obtain ⟨t1, t2, t3, ⟨t4, t5, t6⟩, t7, t8, t9⟩ := s'
  have l1 := ok.1
  have l2 := ok.2.2.2.1
  apply G_X8_copyFrom
  unfold V_X8_copyFrom
  simp only [hK_p, hL_p, hI_p, hR_p, wI_p, cpI_p, hN_p, forall_eq, true_and, and_true, ne_eq, not_true_eq_false, not_false_eq_true, true_implies, false_implies, imp_false, implies_true, if_true, if_false, reduceCtorEq, s1, s2, t1, t2, s3.1]
  refine c_copyFrom s3 t3 (by omega) h1 (by omega) (by omega) (fun J hJ xJ => ?_)
  simp only [hK_p, hL_p, hI_p, hR_p, wI_p, cpI_p, hN_p, forall_eq, true_and, and_true, ne_eq, not_true_eq_false, not_false_eq_true, true_implies, false_implies, imp_false, implies_true, if_true, if_false, reduceCtorEq, s1, s4, s5, s6, s7, s8, s9, t1, t4, t5, t6, t7, t8, t9]
  refine ⟨by omega, by omega, ?_⟩
  have j : ∀ x q, ¬ ((x = a + 1 ∧ q = 1) ∨ x = a + 2) → J x q = I x q := xJ
  generalize hB : cpy (cpy J (b + 3) 0 (a + 3) 0 20) (b + 4) 0 (a + 4) 0 20 = B
  have b3 : B b 3 = n.2.2.length := by rw [← hB, cpy_at, if_neg (by omega), cpy_at, if_neg (by omega), j _ _ (by omega), h2]
  have b4 : upI B a 3 (n.2.2.length : Int) b 4 = n.2.1 := by rw [upI_ne (by omega), ← hB, cpy_at, if_neg (by omega), cpy_at, if_neg (by omega), j _ _ (by omega), h3]
  rw [b3, b4]
  generalize hF : upI (upI B a 3 (n.2.2.length : Int)) a 4 n.2.1 = F
  have fo : ∀ x q, ¬ (x = a ∧ (q = 3 ∨ q = 4)) → x ≠ a + 3 → x ≠ a + 4 → F x q = J x q := fun x q z1 z2 z3 => by rw [← hF, upI_ne (by omega), upI_ne (by omega), ← hB, cpy_at, if_neg (by omega), cpy_at, if_neg (by omega)]
  have f3 : ∀ q, 0 ≤ q → q < 20 → F (a + 3) q = I (b + 3) q := fun q q0 q1 => by
    rw [← hF, upI_ne (by omega), upI_ne (by omega), ← hB, cpy_at, if_neg (by omega), cpy_at, if_pos (by omega), j _ _ (by omega)]; congr 1; omega
  have f4 : ∀ q, 0 ≤ q → q < 20 → F (a + 4) q = I (b + 4) q := fun q q0 q1 => by
    rw [← hF, upI_ne (by omega), upI_ne (by omega), ← hB, cpy_at, if_pos (by omega), cpy_at, if_neg (by omega), j _ _ (by omega)]; congr 1; omega
  refine k F ⟨hJ.kept (fo _ _ (by omega) (by omega) (by omega)) (funext fun q => fo _ _ (by omega) (by omega) (by omega)), ?_, ?_, h4.congr (fun q q0 q1 => ?_), h5.congr (fun q q0 q1 => ?_), fun q q0 q1 => ?_⟩ (fun x q hq => ?_)
  · rw [← hF, upI_ne (by omega), upI_self]
  · rw [← hF, upI_self]
  · rw [List.length_map] at q1
    exact f3 q (by omega) (by omega)
  · rw [List.length_map] at q1
    exact f4 q (by omega) (by omega)
  · rw [f3 q q0 q1, f4 q q0 q1]; exact h6 q q0 q1
  · rw [fo _ _ (by omega) (by omega) (by omega), j _ _ (by omega)]
theorem c_beginSt {I : Im} {r : Rs} {a b d : Nat} {n' : Int} {ys : List Int} {n : NS} {Q : Hp → Prop} (s : Ss r a) (s' : Fs r b d n') (hd : d < a ∨ a + 5 ≤ d) (h : cSt I a n) (h' : fg I b d ys) (hl : ys.length ≤ 60) (hl' : (ys.length : Int) ≤ n') (k : ∀ I', cSt I' a (ys, 0, []) → Ex (aS a) I I' → Q (I', r)) : C_X8_begin a b (I, r) Q := by
  obtain ⟨h1, h2, h3, h4, h5, h6⟩ := h
  obtain ⟨s1, s2, s3, ⟨s4, s5, s6⟩, s7, s8, s9⟩ := s
  apply G_X8_begin
  unfold V_X8_begin
  simp only [hK_p, hL_p, hI_p, hR_p, wI_p, cpI_p, hN_p, forall_eq, true_and, and_true, ne_eq, not_true_eq_false, not_false_eq_true, true_implies, false_implies, imp_false, implies_true, if_true, if_false, reduceCtorEq, s1, s2, s3.1]
  refine c_copyFrom s3 s' (by omega) h' (by omega) hl' (fun J hJ xJ => ?_)
  simp only [hK_p, hL_p, hI_p, hR_p, wI_p, cpI_p, hN_p, forall_eq, true_and, and_true, ne_eq, not_true_eq_false, not_false_eq_true, true_implies, false_implies, imp_false, implies_true, if_true, if_false, reduceCtorEq, s1]
  refine k _ ⟨hJ.kept (by rw [upI_ne (by omega), upI_ne (by omega)]) (funext fun q => by rw [upI_ne (by omega), upI_ne (by omega)]), by rw [upI_ne (by omega), upI_self]; rfl, by rw [upI_self], Seg.nil _ _, Seg.nil _ _, fun q q0 q1 => ?_⟩ (fun x q hq => ?_)
  · rw [upI_ne (by omega), upI_ne (by omega), upI_ne (by omega), upI_ne (by omega), xJ _ _ (by omega), xJ _ _ (by omega)]; exact h6 q q0 q1
  · rw [upI_ne (by omega), upI_ne (by omega), xJ _ _ (by omega)]
theorem seg_push {f g : Int → Int} {v : Int} {xs : List Int} (h : Seg f 0 xs) (h0 : g 0 = v) (hs : ∀ q : Int, 1 ≤ q → q < 20 → g q = f (q - 1)) : Seg g 0 ((v :: xs).take 20) := by
  intro k w hk
  rw [List.getElem?_take] at hk
  split at hk
  · cases k with
    | zero => simp at hk; rw [← hk]; exact h0
    | succ k =>
      have hk : xs[k]? = some w := by simpa using hk
      have := h k w hk
      rw [← this, hs _ (by omega) (by omega)]
      congr 1
      omega
  · cases hk
theorem c_logReading {I : Im} {r : Rs} {a : Nat} {kind : Int} {n : NS} {Q : Hp → Prop} (s : Ss r a) (h : cSt I a n) (ok : NSok n) (hk : 0 ≤ kind ∧ kind ≤ 5) (k : ∀ I', cSt I' a (n.1, n.2.1, ((kind, (n.1.length : Int)) :: n.2.2).take 20) → Ex (aS a) I I' → Q (I', r)) : C_X8_logReading a kind (I, r) Q := by
  obtain ⟨h1, h2, h3, h4, h5, h6⟩ := h
  obtain ⟨s1, s2, s3, ⟨s4, s5, s6⟩, s7, s8, s9⟩ := s
  have l1 := ok.1
  have l2 := ok.2.2.2.1
  apply G_X8_logReading
  unfold V_X8_logReading
  refine Lp_X8_logReading_3_ind (fun x h => ∃ (J : Im), 0 ≤ x ∧ x ≤ 19 ∧ h = (J, r) ∧ Ex (fun y _ => y = a + 3 ∨ y = a + 4) I J ∧ (∀ q : Int, 0 ≤ q → q ≤ x → J (a + 3) q = I (a + 3) q ∧ J (a + 4) q = I (a + 4) q) ∧ ∀ q : Int, x < q → q < 20 → J (a + 3) q = I (a + 3) (q - 1) ∧ J (a + 4) q = I (a + 4) (q - 1)) (fun x _ => x.toNat) ?_ _ _ ⟨I, by omega, by omega, rfl, Ex.refl I, fun q _ _ => ⟨rfl, rfl⟩, fun q z1 z2 => absurd z1 (by omega)⟩
  intro P x hh hI ih
  obtain ⟨J, x0, x1, rfl, xJ, u1, u2⟩ := hI
  unfold BLp_X8_logReading_3
  refine ⟨fun c1 => ?_, fun c1 => ?_⟩
  · have hx : x = 0 := by omega
    subst hx
    have j1 : J (a + 1) 1 = n.1.length := by rw [xJ _ _ (by omega), h1.1]
    have j3 : J a 3 = n.2.2.length := by rw [xJ _ _ (by omega), h2]
    have f1 : upI J (a + 3) 0 kind (a + 1) 1 = n.1.length := by rw [upI_ne (by omega), j1]
    have f3 : upI (upI J (a + 3) 0 kind) (a + 4) 0 (n.1.length : Int) a 3 = n.2.2.length := by rw [upI_ne (by omega), upI_ne (by omega), j3]
    simp only [hK_p, hL_p, hI_p, hR_p, wI_p, cpI_p, hN_p, forall_eq, true_and, and_true, ne_eq, not_true_eq_false, not_false_eq_true, true_implies, false_implies, imp_false, implies_true, if_true, if_false, reduceCtorEq, s1, s2, s3.1, s4, s5, s6, s7, s8, s9, f1, f3]
    refine ⟨by omega, by omega, by omega, by omega, by omega, k _ ⟨h1.kept ?_ (funext fun q => ?_), ?_, ?_, ?_, ?_, fun q q0 q1 => ?_⟩ (fun y q hq => ?_)⟩
    · rw [upI_ne (by omega), upI_ne (by omega), upI_ne (by omega), xJ _ _ (by omega)]
    · rw [upI_ne (by omega), upI_ne (by omega), upI_ne (by omega), xJ _ _ (by omega)]
    · rw [upI_self]
      show min 20 ((n.2.2.length : Int) + 1) = (((((kind, (n.1.length : Int)) :: n.2.2).take 20).length : Nat) : Int)
      rw [List.length_take, List.length_cons]; omega
    · rw [upI_ne (by omega), upI_ne (by omega), upI_ne (by omega), xJ _ _ (by omega), h3]
    · rw [List.map_take, List.map_cons]
      refine seg_push h4 ?_ (fun q q0 q1 => ?_)
      · rw [upI_ne (by omega), upI_ne (by omega), upI_self]
      · rw [upI_ne (by omega), upI_ne (by omega), upI_ne (by omega), (u2 q (by omega) q1).1]
    · rw [List.map_take, List.map_cons]
      refine seg_push h5 ?_ (fun q q0 q1 => ?_)
      · rw [upI_ne (by omega), upI_self]
      · rw [upI_ne (by omega), upI_ne (by omega), upI_ne (by omega), (u2 q (by omega) q1).2]
    · rcases (show q = 0 ∨ 0 < q by omega) with z | z
      · subst z
        rw [upI_ne (by omega), upI_ne (by omega), upI_self, upI_ne (by omega), upI_self]
        omega
      · rw [upI_ne (by omega), upI_ne (by omega), upI_ne (by omega), upI_ne (by omega), upI_ne (by omega), upI_ne (by omega), (u2 q z q1).1, (u2 q z q1).2]
        exact h6 _ (by omega) (by omega)
    · rw [upI_ne (by omega), upI_ne (by omega), upI_ne (by omega), xJ _ _ (by omega)]
  · have g1 := (u1 (x - 1) (by omega) (by omega)).1
    have g2 := (u1 (x - 1) (by omega) (by omega)).2
    have f2 : upI J (a + 3) x (I (a + 3) (x - 1)) (a + 4) (x - 1) = I (a + 4) (x - 1) := by rw [upI_ne (by omega), g2]
    have hb := h6 (x - 1) (by omega) (by omega)
    simp only [hK_p, hL_p, hI_p, hR_p, wI_p, cpI_p, hN_p, forall_eq, true_and, and_true, ne_eq, not_true_eq_false, not_false_eq_true, true_implies, false_implies, imp_false, implies_true, if_true, if_false, reduceCtorEq, s1, s2, s3.1, s4, s5, s6, s7, s8, s9, g1, f2]
    refine ⟨by omega, by omega, by omega, by omega, by omega, by omega, by omega, ih _ _ ⟨_, by omega, by omega, rfl, fun y q hq => by rw [upI_ne (by omega), upI_ne (by omega), xJ y q hq], fun q q0 q1 => ?_, fun q q0 q1 => ?_⟩ (by omega)⟩
    · rw [upI_ne (by omega), upI_ne (by omega), upI_ne (by omega), upI_ne (by omega)]; exact u1 q q0 (by omega)
    · rcases (show q = x ∨ x < q by omega) with z | z
      · subst z
        rw [upI_ne (by omega), upI_self, upI_self]; exact ⟨rfl, rfl⟩
      · rw [upI_ne (by omega), upI_ne (by omega), upI_ne (by omega), upI_ne (by omega)]; exact u2 q z q1
theorem c_becomeReading {I : Im} {r : Rs} {a b d : Nat} {kind n' : Int} {ys : List Int} {n : NS} {Q : Hp → Prop} (s : Ss r a) (s' : Fs r b d n') (hb : b < a ∨ a + 5 ≤ b) (hd : d < a ∨ a + 5 ≤ d) (h : cSt I a n) (ok : NSok n) (h' : fg I b d ys) (hk : 0 ≤ kind ∧ kind ≤ 5) (hl : ys.length ≤ 60) (hl' : (ys.length : Int) ≤ n') (k : ∀ I', cSt I' a (ys, n.2.1 + 1, ((kind, (n.1.length : Int)) :: n.2.2).take 20) → Ex (aS a) I I' → Q (I', r)) : C_X8_becomeReading a kind b (I, r) Q := by
  have q := s
  have ok3 := ok.2.2.1
  obtain ⟨s1, s2, s3, _⟩ := q
  apply G_X8_becomeReading
  unfold V_X8_becomeReading
  refine ⟨s1, c_logReading s h ok hk (fun J hJ xJ => ?_)⟩
  simp only [hK_p, hL_p, hI_p, hR_p, wI_p, cpI_p, hN_p, forall_eq, true_and, and_true, ne_eq, not_true_eq_false, not_false_eq_true, true_implies, false_implies, imp_false, implies_true, if_true, if_false, reduceCtorEq, s1, s2, s3.1]
  refine c_copyFrom s3 s' (by omega) (h'.ex xJ (by omega) (fun q => by omega)) (by omega) hl' (fun K hK xK => ?_)
  obtain ⟨j1, j2, j3, j4, j5, j6⟩ := hJ
  have k4 : K a 4 = n.2.1 := by rw [xK _ _ (by omega), j3]
  simp only [hK_p, hL_p, hI_p, hR_p, wI_p, cpI_p, hN_p, forall_eq, true_and, and_true, ne_eq, not_true_eq_false, not_false_eq_true, true_implies, false_implies, imp_false, implies_true, if_true, if_false, reduceCtorEq, s1, k4]
  refine ⟨by omega, k _ ⟨hK.kept (upI_ne (by omega)) (funext fun q => upI_ne (by omega)), ?_, by rw [upI_self], ?_, ?_, fun q q0 q1 => ?_⟩ (fun x q hq => by rw [upI_ne (by omega), xK _ _ (by omega), xJ x q hq])⟩
  · rw [upI_ne (by omega), xK _ _ (by omega)]; exact j2
  · exact j4.congr (fun q _ _ => by rw [upI_ne (by omega), xK _ _ (by omega)])
  · exact j5.congr (fun q _ _ => by rw [upI_ne (by omega), xK _ _ (by omega)])
  · rw [upI_ne (by omega), upI_ne (by omega), xK _ _ (by omega), xK _ _ (by omega)]; exact j6 q q0 q1
theorem c_loggedKind {I : Im} {r : Rs} {a : Nat} {i : Int} {n : NS} {Q : Int → Hp → Prop} (s : Ss r a) (h : cSt I a n) (ok : NSok n) (k : Q (if 0 ≤ i ∧ i ≤ n.2.2.length - 1 then (n.2.2.getD i.toNat (0, 0)).1 else -1) (I, r)) : C_X8_loggedKind a i (I, r) Q := by
  obtain ⟨h1, h2, h3, h4, h5, h6⟩ := h
  obtain ⟨s1, s2, s3, ⟨s4, s5, s6⟩, s7, s8, s9⟩ := s
  have l2 := ok.2.2.2.1
  apply G_X8_loggedKind
  unfold V_X8_loggedKind
  simp only [hK_p, hL_p, hI_p, hR_p, wI_p, cpI_p, hN_p, forall_eq, true_and, and_true, ne_eq, not_true_eq_false, not_false_eq_true, true_implies, false_implies, imp_false, implies_true, if_true, if_false, reduceCtorEq, s1, s4, s5, s6, h2]
  refine ⟨fun c => ?_, fun c => ⟨fun c2 => ?_, fun c2 => ⟨by omega, ?_⟩⟩⟩
  · rw [if_neg (by omega)] at k; exact k
  · rw [if_neg (by omega)] at k; exact k
  · rw [if_pos (by omega)] at k
    have := h4.at (i := i) (by omega) (by rw [List.length_map]; omega) 0
    rw [Int.zero_add] at this
    rw [this, List.getD_eq_getElem?_getD, List.getElem?_map]
    rw [List.getD_eq_getElem?_getD, List.getElem?_eq_getElem (show i.toNat < n.2.2.length by omega)] at k
    rw [List.getElem?_eq_getElem (show i.toNat < n.2.2.length by omega)]
    exact k
theorem c_loggedSize {I : Im} {r : Rs} {a : Nat} {i : Int} {n : NS} {Q : Int → Hp → Prop} (s : Ss r a) (h : cSt I a n) (ok : NSok n) (k : Q (if 0 ≤ i ∧ i ≤ n.2.2.length - 1 then (n.2.2.getD i.toNat (0, 0)).2 else -1) (I, r)) : C_X8_loggedSize a i (I, r) Q := by
  obtain ⟨h1, h2, h3, h4, h5, h6⟩ := h
  obtain ⟨s1, s2, s3, ⟨s4, s5, s6⟩, s7, s8, s9⟩ := s
  have l2 := ok.2.2.2.1
  apply G_X8_loggedSize
  unfold V_X8_loggedSize
  simp only [hK_p, hL_p, hI_p, hR_p, wI_p, cpI_p, hN_p, forall_eq, true_and, and_true, ne_eq, not_true_eq_false, not_false_eq_true, true_implies, false_implies, imp_false, implies_true, if_true, if_false, reduceCtorEq, s1, s7, s8, s9, h2]
  refine ⟨fun c => ?_, fun c => ⟨fun c2 => ?_, fun c2 => ⟨by omega, ?_⟩⟩⟩
  · rw [if_neg (by omega)] at k; exact k
  · rw [if_neg (by omega)] at k; exact k
  · rw [if_pos (by omega)] at k
    have := h5.at (i := i) (by omega) (by rw [List.length_map]; omega) 0
    rw [Int.zero_add] at this
    rw [this, List.getD_eq_getElem?_getD, List.getElem?_map]
    rw [List.getD_eq_getElem?_getD, List.getElem?_eq_getElem (show i.toNat < n.2.2.length by omega)] at k
    rw [List.getElem?_eq_getElem (show i.toNat < n.2.2.length by omega)]
    exact k
