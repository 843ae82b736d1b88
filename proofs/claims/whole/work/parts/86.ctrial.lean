/-! COMPONENT, part 16: trials -/
def alR (r : Rs) (kd : Nat) (n : Int) (sl : Nat) : Rs := (fun b j => if b = rN r then 0 else rR r b j, fun b => if b = rN r then kd else rK r b, fun b => if b = rN r then n else rL r b, rN r + 1, rS r + sl)
def alI (I : Im) (n : Nat) : Im := fun b j => if b = n then 0 else I b j
theorem al_p (I : Im) (r : Rs) (kd : Nat) (n : Int) (sl : Nat) : al (I, r) kd n sl = (alI I (rN r), alR r kd n sl) := rfl
theorem alI_ne {I : Im} {n b : Nat} {j : Int} (h : b ≠ n) : alI I n b j = I b j := if_neg h
theorem alR_R (r : Rs) (kd : Nat) (n : Int) (sl : Nat) {a : Nat} (k : Int) (h : a ≠ rN r) : rR (alR r kd n sl) a k = rR r a k := if_neg h
theorem alR_K (r : Rs) (kd : Nat) (n : Int) (sl : Nat) {a : Nat} (h : a ≠ rN r) : rK (alR r kd n sl) a = rK r a := if_neg h
theorem alR_L (r : Rs) (kd : Nat) (n : Int) (sl : Nat) {a : Nat} (h : a ≠ rN r) : rL (alR r kd n sl) a = rL r a := if_neg h
theorem alR_Kn (r : Rs) (kd : Nat) (n : Int) (sl : Nat) : rK (alR r kd n sl) (rN r) = kd := if_pos rfl
theorem alR_Ln (r : Rs) (kd : Nat) (n : Int) (sl : Nat) : rL (alR r kd n sl) (rN r) = n := if_pos rfl
/-- a figure's cells are new -/
def grw (r : Rs) (b : Nat) (n : Int) : Rs := upR (alR r 13 n n.toNat) b 0 (rN r)
theorem grw_new {r : Rs} {b : Nat} {n : Int} (kb : rK r b = 2) (hb : b ≠ rN r) : Fs (grw r b n) b (rN r) n := by
  refine ⟨?_, upR_self _ _ _ _, alR_Kn _ _ _ _, alR_Ln _ _ _ _⟩
  show rK (alR r 13 n n.toNat) b = 2
  rw [alR_K _ _ _ _ hb]; exact kb
theorem grw_old {r : Rs} {a c b : Nat} {n m : Int} (h : Fs r a c m) (hab : a ≠ b) (ha : a ≠ rN r) (hc : c ≠ rN r) : Fs (grw r b n) a c m := by
  obtain ⟨h1, h2, h3, h4⟩ := h
  refine ⟨?_, ?_, ?_, ?_⟩
  · show rK (alR r 13 n n.toNat) a = 2; rw [alR_K _ _ _ _ ha]; exact h1
  · show (if a = b ∧ (0 : Int) = 0 then rN r else rR (alR r 13 n n.toNat) a 0) = c
    rw [if_neg (fun z => hab z.1), alR_R _ _ _ _ _ ha]; exact h2
  · show rK (alR r 13 n n.toNat) c = 13; rw [alR_K _ _ _ _ hc]; exact h3
  · show rL (alR r 13 n n.toNat) c = m; rw [alR_L _ _ _ _ hc]; exact h4
theorem grw_R {r : Rs} {b : Nat} {n : Int} {a : Nat} {k : Int} (h : ¬ (a = b ∧ k = 0)) (ha : a ≠ rN r) : rR (grw r b n) a k = rR r a k := by
  show (if a = b ∧ k = 0 then rN r else rR (alR r 13 n n.toNat) a k) = _
  rw [if_neg h, alR_R _ _ _ _ _ ha]
theorem grw_Rx {r : Rs} {b : Nat} {n : Int} (hb : b = 231 ∨ b = 233 ∨ b = 238) (hN : 389 ≤ rN r) : Rx r (grw r b n) :=
  ⟨fun a k ha hk => grw_R (by omega) (by omega), fun a ha => alR_K _ _ _ _ (by omega), fun a ha => alR_L _ _ _ _ (by omega)⟩
theorem grw_N (r : Rs) (b : Nat) (n : Int) : rN (grw r b n) = rN r + 1 := rfl
theorem grw_S (r : Rs) (b : Nat) (n : Int) : rS (grw r b n) = rS r + n.toNat := rfl
def Gr (r : Rs) (b d : Nat) (n most : Int) (r' : Rs) (d' : Nat) (n' : Int) : Prop := (r' = r ∧ d' = d ∧ n' = n ∧ most ≤ n) ∨ (¬ most ≤ n ∧ n < 15360 ∧ d' = rN r ∧ n' = min 15360 (2 * most) ∧ r' = grw r b n')
theorem c_sayG {I : Im} {r : Rs} {a c b d : Nat} {n n' kind : Int} {xs : List Int} {Q : Hp → Prop} (s : Fs r a c n) (s' : Fs r b d n') (hcd : c ≠ d) (h : fg I a c xs) (hf : figs xs) (hl : (xs.length : Int) ≤ n) (hl' : 2 * (xs.length : Int) ≤ 15360) (hn : n ≤ 1000000) (hn' : n' ≤ 15360) (hN : a ≠ rN r ∧ b ≠ rN r ∧ c ≠ rN r) (k : ∀ I' r' d' n'', Gr r b d n' (2 * xs.length) r' d' n'' → fg I' b d' (sayL kind xs) → Ex (fun x q => (x = b ∧ q = 1) ∨ x = d ∨ x = rN r) I I' → Q (I', r')) : C_X7_say kind a b (I, r) Q := by
  by_cases g : 2 * (xs.length : Int) ≤ n'
  · exact c_say s s' hcd h hf hl g hn (by omega) (fun K hK xK => k K r d n' (Or.inl ⟨rfl, rfl, rfl, g⟩) hK (xK.mono (fun x q z => by omega)))
  have e3 := s.ne2 s'
  have e4 := s'.ne2 s
  have e5 := s.ne1 s' hcd
  have q := s'
  obtain ⟨t1, t2, t3, t4⟩ := q
  apply G_X7_say
  unfold V_X7_say
  unfold sayL at k
  simp only [hK_p, hL_p, hI_p, hR_p, wI_p, cpI_p, hN_p, forall_eq, true_and, and_true, ne_eq, not_true_eq_false, not_false_eq_true, true_implies, false_implies, imp_false, implies_true, if_true, if_false, reduceCtorEq, s.1, s'.1, h.1]
  refine ⟨by omega, ?_⟩
  apply G_X2_startOver
  unfold V_X2_startOver
  simp only [hK_p, hL_p, hI_p, hR_p, wI_p, cpI_p, hN_p, forall_eq, true_and, and_true, ne_eq, not_true_eq_false, not_false_eq_true, true_implies, false_implies, imp_false, implies_true, if_true, if_false, reduceCtorEq, al_p, wR_p, t1, t2, t3, t4]
  refine ⟨fun z => absurd z g, fun _ => ⟨fun z => absurd z (by omega), fun _ => ⟨by omega, by omega, ?_⟩⟩⟩
  rw [alR_K _ _ _ _ hN.2.1]
  refine ⟨t1, ?_⟩
  generalize hm : min 15360 (2 * (2 * (xs.length : Int))) = mm
  have hg : upR (alR r 13 mm mm.toNat) b 0 (rN r) = grw r b mm := rfl
  rw [hg]
  have sA := grw_old (b := b) (n := mm) s e5 hN.1 hN.2.2
  have sB := grw_new (n := mm) t1 hN.2.1
  have h0 : fg (alI (upI I b 1 0) (rN r)) a c xs := h.kept (by rw [alI_ne hN.1, upI_ne (by omega)]) (funext fun q => by rw [alI_ne hN.2.2, upI_ne (by omega)])
  have h1 : fg (alI (upI I b 1 0) (rN r)) b (rN r) [] := ⟨by rw [alI_ne hN.2.1, upI_self]; rfl, Seg.nil _ _⟩
  have gr : Gr r b d n' (2 * xs.length) (grw r b mm) (rN r) mm := Or.inr ⟨g, by omega, rfl, hm.symm, rfl⟩
  have ex : ∀ K, Ex (aF b (rN r)) (alI (upI I b 1 0) (rN r)) K → Ex (fun x q => (x = b ∧ q = 1) ∨ x = d ∨ x = rN r) I K := fun K xK x q hq => by rw [xK x q (by omega), alI_ne (by omega), upI_ne (by omega)]
  refine ⟨fun c1 => ?_, fun c1 => ?_⟩
  · rw [if_neg c1] at k
    exact c_sayRuns sA sB hN.2.2 h0 h1 hf hl (by omega) hn (by omega) (fun K hK xK => k K _ _ _ gr hK (ex K xK))
  · rw [if_pos c1] at k
    exact c_sayCounts sA sB hN.2.2 h0 h1 hl (by omega) hn (by omega) (fun K hK xK => k K _ _ _ gr hK (ex K xK))
theorem Tr.grow {r r' : Rs} {p o cp co c3 co' : Nat} {Lp Lo L3 Lo' most : Int} (h : Tr r p o cp co c3 Lp Lo L3) (hm : most ≤ 15360) (g : Gr r o co Lo most r' co' Lo') : Tr r' p o cp co' c3 Lp Lo' L3 ∧ Rx r r' ∧ most ≤ Lo' := by
  rcases g with ⟨g1, g2, g3, g4⟩ | ⟨g1, g2, g3, g4, g5⟩
  · subst g1 g2 g3
    exact ⟨h, Rx.refl _, g4⟩
  obtain ⟨h1, ⟨h2, h3⟩, h4, h5, h6, ⟨h7, h8, h9⟩, ⟨h10, h11, h12⟩, h13, h14, h15, h16, h17, h18⟩ := h
  subst g5 g3
  unfold tC at h7 h8 h9
  have hN := grw_N r o Lo'
  have hS := grw_S r o Lo'
  refine ⟨⟨h1, ⟨?_, ?_⟩, grw_old h4 (by omega) (by omega) (by omega), grw_new h5.1 (by omega), grw_old h6 (by omega) (by omega) (by omega), ?_, ⟨by omega, h11, by omega⟩, h13, by omega, h15, by omega, ?_, ?_⟩, grw_Rx (by omega) h16, by omega⟩
  · rw [grw_R (by omega) (by omega)]; exact h2
  · rw [grw_R (by omega) (by omega)]; exact h3
  · unfold tC; rw [hN]; omega
  · rw [hN]; unfold phi at *; split at h17 <;> split <;> omega
  · rw [hS]; unfold phi at *; split at h18 <;> split <;> omega
