/-! HOW IT BEGINS, part 1: what is made -/
def Fr (A : Nat → Int → Prop) (N : Nat) (r r' : Rs) : Prop := (∀ (b : Nat) (k : Int), b < N → ¬ A b k → rR r' b k = rR r b k) ∧ (∀ b : Nat, b < N → rK r' b = rK r b) ∧ (∀ b : Nat, b < N → rL r' b = rL r b)
abbrev nA : Nat → Int → Prop := fun _ _ => False
theorem Fr.refl {A : Nat → Int → Prop} {N : Nat} (r : Rs) : Fr A N r r := ⟨fun _ _ _ _ => rfl, fun _ _ => rfl, fun _ _ => rfl⟩
theorem Fr.trans {A B C : Nat → Int → Prop} {N M : Nat} {r r' r'' : Rs} (h1 : Fr A N r r') (h2 : Fr B M r' r'') (hN : N ≤ M) (hA : ∀ b k, A b k → C b k) (hB : ∀ b k, b < N → B b k → C b k) : Fr C N r r'' :=
  ⟨fun b k hb hc => (h2.1 b k (by omega) (fun z => hc (hB b k hb z))).trans (h1.1 b k hb (fun z => hc (hA b k z))), fun b hb => (h2.2.1 b (by omega)).trans (h1.2.1 b hb), fun b hb => (h2.2.2 b (by omega)).trans (h1.2.2 b hb)⟩
theorem Fr.al {A : Nat → Int → Prop} {N kd sl : Nat} {n : Int} {r : Rs} (hN : N ≤ rN r) : Fr A N r (alR r kd n sl) := ⟨fun b k hb _ => alR_R _ _ _ _ _ (by omega), fun b hb => alR_K _ _ _ _ (by omega), fun b hb => alR_L _ _ _ _ (by omega)⟩
theorem Fr.up {A : Nat → Int → Prop} {N x v : Nat} {k : Int} {r : Rs} (h : A x k) : Fr A N r (upR r x k v) := ⟨fun b j _ hc => by rw [upR_at, if_neg (fun z => hc (by rw [z.1, z.2]; exact h))], fun _ _ => rfl, fun _ _ => rfl⟩
theorem Fs.fr {A : Nat → Int → Prop} {N : Nat} {r r' : Rs} {a c : Nat} {n : Int} (h : Fs r a c n) (x : Fr A N r r') (ha : a < N) (hc : c < N) (hA : ¬ A a 0) : Fs r' a c n := ⟨(x.2.1 a ha).trans h.1, (x.1 a 0 ha hA).trans h.2.1, (x.2.1 c hc).trans h.2.2.1, (x.2.2 c hc).trans h.2.2.2⟩
theorem Ss.fr {A : Nat → Int → Prop} {N : Nat} {r r' : Rs} {a : Nat} (h : Ss r a) (x : Fr A N r r') (ha : a + 4 < N) (hA : ∀ b k, a ≤ b → ¬ A b k) : Ss r' a := by
  obtain ⟨s1, s2, s3, ⟨s4, s5, s6⟩, s7, s8, s9⟩ := h
  exact ⟨(x.2.1 a (by omega)).trans s1, (x.1 a 0 (by omega) (hA _ _ (by omega))).trans s2, s3.fr x (by omega) (by omega) (hA _ _ (by omega)), ⟨(x.1 a 1 (by omega) (hA _ _ (by omega))).trans s4, (x.2.1 _ (by omega)).trans s5, (x.2.2 _ (by omega)).trans s6⟩, (x.1 a 2 (by omega) (hA _ _ (by omega))).trans s7, (x.2.1 _ (by omega)).trans s8, (x.2.2 _ (by omega)).trans s9⟩
theorem sWL.fr {A : Nat → Int → Prop} {N : Nat} {r r' : Rs} {a : Nat} (h : sWL r a) (x : Fr A N r r') (ha : a + 15 < N) (hA : ∀ b k, a ≤ b → ¬ A b k) : sWL r' a := by
  obtain ⟨s1, ⟨s2, s3, s4⟩, ⟨s5, s6, s7⟩, ⟨s8, s9, s10⟩, s11⟩ := h
  exact ⟨(x.2.1 _ (by omega)).trans s1, ⟨(x.1 _ _ (by omega) (hA _ _ (by omega))).trans s2, (x.2.1 _ (by omega)).trans s3, (x.2.2 _ (by omega)).trans s4⟩, ⟨(x.1 _ _ (by omega) (hA _ _ (by omega))).trans s5, (x.2.1 _ (by omega)).trans s6, (x.2.2 _ (by omega)).trans s7⟩, ⟨(x.1 _ _ (by omega) (hA _ _ (by omega))).trans s8, (x.2.1 _ (by omega)).trans s9, (x.2.2 _ (by omega)).trans s10⟩, fun w hw => ⟨(x.1 _ _ (by omega) (hA _ _ (by omega))).trans (s11 w hw).1, (s11 w hw).2.fr x (by omega) (by omega) (hA _ _ (by omega))⟩⟩
/-- what is made is made of noughts -/
def In (a n : Nat) (I I' : Im) : Prop := (∀ (b : Nat) (k : Int), b < a → I' b k = I b k) ∧ ∀ (b : Nat) (k : Int), a ≤ b → b < n → I' b k = 0
theorem In.refl (a : Nat) (I : Im) : In a a I I := ⟨fun _ _ _ => rfl, fun _ _ h1 h2 => absurd h1 (by omega)⟩
theorem In.al (a : Nat) (I : Im) : In a (a + 1) I (alI I a) := ⟨fun b k h => alI_ne (by omega), fun b k h1 h2 => by rw [show b = a by omega]; exact if_pos rfl⟩
theorem In.trans {a m n : Nat} {I J K : Im} (h1 : In a m I J) (h2 : In m n J K) (ha : a ≤ m) : In a n I K := ⟨fun b k h => (h2.1 b k (by omega)).trans (h1.1 b k h), fun b k hb hn => by
  by_cases e : b < m
  · rw [h2.1 b k e, h1.2 b k hb e]
  · exact h2.2 b k (by omega) hn⟩
/-- a row of cells is made and kept in a field -/
def Ad (r r' : Rs) (x : Nat) (k : Int) (kd : Nat) (n : Int) (N S : Nat) : Prop := rR r' x k = N ∧ rK r' N = kd ∧ rL r' N = n ∧ rN r' = N + 1 ∧ rS r' = S + n.toNat ∧ Fr (fun b j => b = x ∧ j = k) N r r'
theorem arr_step {I : Im} {r : Rs} {x kx kd N S : Nat} {n k : Int} {R : Hp → Prop} (hN1 : rN r = N) (hS1 : rS r = S) (hn : 0 ≤ n ∧ n ≤ 100000000) (hx : rK r x = kx) (hxN : x < N) (h : ∀ r', Ad r r' x k kd n N S → R (alI I N, r')) : (0 ≤ n ∧ n ≤ (100000000 : Int)) ∧ ∀ n1 : Nat, n1 = hN (I, r) → ∀ h2 : Hp, h2 = al (I, r) kd n (Int.toNat n) → (hK h2 x = kx ∧ ∀ h3 : Hp, h3 = wR h2 x k n1 → R h3) := by
  subst hN1 hS1
  refine ⟨hn, fun n1 e1 h2 e2 => ?_⟩
  obtain rfl : n1 = rN r := e1
  subst e2
  rw [al_p]
  refine ⟨(alR_K _ _ _ _ (by omega)).trans hx, fun h3 e3 => ?_⟩
  subst e3
  rw [wR_p]
  exact h _ ⟨upR_self _ _ _ _, alR_Kn _ _ _ _, alR_Ln _ _ _ _, rfl, rfl, (Fr.al (Nat.le_refl _)).trans (Fr.up ⟨rfl, rfl⟩) (Nat.le_refl _) (fun _ _ z => z) (fun _ _ _ z => z)⟩
theorem n_fig {I : Im} {r : Rs} {a n1 : Nat} {m : Int} {h2 : Hp} {Q : Hp → Prop} (ha : rN r = a) (e1 : n1 = a) (e2 : h2 = al (I, r) 2 0 2) (hm : 0 ≤ m ∧ m ≤ 100000000) (k : ∀ I' r', Fs r' a (a + 1) m → Fr nA a r r' → rN r' = a + 2 → rS r' = rS r + 2 + m.toNat → In a (a + 2) I I' → Q (I', r')) : hK h2 n1 = 2 ∧ C_X2_init n1 m h2 Q := by
  subst e1 e2 ha
  rw [al_p]
  have k2 : rK (alR r 2 0 2) (rN r) = 2 := alR_Kn _ _ _ _
  refine ⟨k2, ?_⟩
  apply G_X2_init
  unfold V_X2_init
  rw [Int.max_eq_left hm.1]
  refine ⟨k2, arr_step (N := rN r + 1) (S := rS r + 2) rfl rfl hm k2 (by omega) (fun r' d => ?_)⟩
  obtain ⟨d1, d2, d3, d4, d5, d6⟩ := d
  exact k _ r' ⟨(d6.2.1 _ (by omega)).trans k2, d1, d2, d3⟩ ((Fr.al (Nat.le_refl _)).trans d6 (by omega) (fun _ _ z => z) (fun b j hb z => by omega)) d4 d5 ((In.al _ I).trans (In.al _ _) (by omega))
theorem n_st {I : Im} {r : Rs} {a n1 : Nat} {h2 : Hp} {Q : Hp → Prop} (ha : rN r = a) (e1 : n1 = a) (e2 : h2 = al (I, r) 7 0 5) (k : ∀ I' r', Ss r' a → Fr nA a r r' → rN r' = a + 5 → rS r' = rS r + 107 → In a (a + 5) I I' → Q (I', r')) : hK h2 n1 = 7 ∧ C_X8_init n1 h2 Q := by
  subst e1 e2 ha
  rw [al_p]
  have k2 : rK (alR r 7 0 5) (rN r) = 7 := alR_Kn _ _ _ _
  refine ⟨k2, ?_⟩
  apply G_X8_init
  unfold V_X8_init
  refine ⟨k2, fun n2 e2 h3 e3 => n_fig (a := rN r + 1) rfl e2 e3 (by omega) (fun J r2 f2 x2 N2 S2 i2 => ?_)⟩
  obtain rfl : n2 = rN r + 1 := e2
  have k3 : rK r2 (rN r) = 7 := (x2.2.1 _ (by omega)).trans k2
  have S2' : rS r2 = rS r + 5 + 2 + 60 := S2
  refine ⟨k3, fun h4 e4 => ?_⟩
  subst e4
  rw [wR_p]
  refine arr_step (N := rN r + 3) (S := rS r + 67) N2 S2' (by omega) k3 (by omega) (fun r3 d => ?_)
  obtain ⟨d1, d2, d3, d4, d5, d6⟩ := d
  have k4 : rK r3 (rN r) = 7 := (d6.2.1 _ (by omega)).trans k3
  refine arr_step (N := rN r + 4) (S := rS r + 87) d4 d5 (by omega) k4 (by omega) (fun r4 g => ?_)
  obtain ⟨g1, g2, g3, g4, g5, g6⟩ := g
  have u1 : Fr (fun b j => b = rN r ∧ j = 0) (rN r + 3) r2 (upR r2 (rN r) 0 (rN r + 1)) := Fr.up ⟨rfl, rfl⟩
  have u2 : Fr (fun b j => b = rN r ∧ (j = 0 ∨ j = 1 ∨ j = 2)) (rN r + 3) r2 r4 := (u1.trans (C := fun b j => b = rN r ∧ (j = 0 ∨ j = 1 ∨ j = 2)) d6 (Nat.le_refl _) (fun b j z => by omega) (fun b j _ z => by omega)).trans g6 (by omega) (fun b j z => z) (fun b j _ z => by omega)
  refine k _ r4 ⟨?_, ?_, ?_, ⟨?_, ?_, ?_⟩, ⟨g1, g2, g3⟩⟩ ?_ g4 g5 ?_
  · rw [u2.2.1 _ (by omega), k3]
  · rw [g6.1 _ _ (by omega) (by omega), d6.1 _ _ (by omega) (by omega), upR_self]
  · exact f2.fr u2 (by omega) (by omega) (by omega)
  · rw [g6.1 _ _ (by omega) (by omega), d1]
  · rw [g6.2.1 _ (by omega), d2]
  · rw [g6.2.2 _ (by omega), d3]
  · exact ((Fr.al (A := nA) (Nat.le_refl _)).trans x2 (C := nA) (by omega) (fun _ _ z => z) (fun _ _ _ z => z)).trans u2 (by omega) (fun _ _ z => z) (fun b j _ z => by omega)
  · exact (((In.al _ I).trans i2 (by omega)).trans (In.al _ _) (by omega)).trans (In.al _ _) (by omega)
theorem n_wl {I : Im} {r : Rs} {a n1 : Nat} {h2 : Hp} {Q : Hp → Prop} (ha : rN r = a) (e1 : n1 = a) (e2 : h2 = al (I, r) 9 0 4) (k : ∀ I' r', sWL r' a → Fr nA a r r' → rN r' = a + 16 → rS r' = rS r + 140 → In a (a + 16) I I' → Q (I', r')) : hK h2 n1 = 9 ∧ C_X10_init n1 h2 Q := by
  subst e1 e2 ha
  rw [al_p]
  have k2 : rK (alR r 9 0 4) (rN r) = 9 := alR_Kn _ _ _ _
  refine ⟨k2, ?_⟩
  apply G_X10_init
  unfold V_X10_init
  refine ⟨k2, arr_step (N := rN r + 1) (S := rS r + 4) rfl rfl (by omega) k2 (by omega) (fun r2 d => ?_)⟩
  obtain ⟨d1, d2, d3, d4, d5, d6⟩ := d
  have k3 : rK r2 (rN r) = 9 := (d6.2.1 _ (by omega)).trans k2
  refine arr_step (N := rN r + 2) (S := rS r + 10) d4 d5 (by omega) k3 (by omega) (fun r3 g => ?_)
  obtain ⟨g1, g2, g3, g4, g5, g6⟩ := g
  have k4 : rK r3 (rN r) = 9 := (g6.2.1 _ (by omega)).trans k3
  refine arr_step (N := rN r + 3) (S := rS r + 71) g4 g5 (by omega) k4 (by omega) (fun r4 f => ?_)
  obtain ⟨f1, f2, f3, f4, f5, f6⟩ := f
  have k5 : rK r4 (rN r) = 9 := (f6.2.1 _ (by omega)).trans k4
  refine Lp_X10_init_31_ind (fun x hh => ∃ (w : Nat) (J : Im) (r' : Rs), x = w ∧ w ≤ 6 ∧ hh = (J, r') ∧ Fr (fun b _ => b = rN r + 1) (rN r + 4) r4 r' ∧ rN r' = rN r + 4 + 2 * w ∧ rS r' = rS r + 80 + 10 * w ∧ In (rN r) (rN r + 4 + 2 * w) I J ∧ ∀ v : Nat, v < w → rR r' (rN r + 1) v = rN r + 4 + 2 * v ∧ Fs r' (rN r + 4 + 2 * v) (rN r + 5 + 2 * v) 8) (fun x _ => 6 - x.toNat) ?_ _ _ ⟨0, _, r4, rfl, by omega, rfl, Fr.refl _, f4, f5, (((In.al _ I).trans (In.al _ _) (by omega)).trans (In.al _ _) (by omega)).trans (In.al _ _) (by omega), fun v hv => absurd hv (by omega)⟩
  intro P x hh hI ih
  obtain ⟨w, J, r', rfl, w1, rfl, w2, w3, w4, w5, w6⟩ := hI
  have e0 : rR r' (rN r) 0 = rN r + 1 := by rw [w2.1 _ _ (by omega) (by omega), f6.1 _ _ (by omega) (by omega), g6.1 _ _ (by omega) (by omega), d1]
  have q1 : rK r' (rN r) = 9 := by rw [w2.2.1 _ (by omega), k5]
  have q2 : rK r' (rN r + 1) = 16 := by rw [w2.2.1 _ (by omega), f6.2.1 _ (by omega), g6.2.1 _ (by omega), d2]
  have q3 : rL r' (rN r + 1) = 6 := by rw [w2.2.2 _ (by omega), f6.2.2 _ (by omega), g6.2.2 _ (by omega), d3]
  unfold BLp_X10_init_31
  refine ⟨fun z => ?_, fun z => ⟨q1, fun n2 e2 h3 e3 => n_fig (a := rN r + 4 + 2 * w) w3 (e2.trans w3) e3 (by omega) (fun L s t1 t2 t3 t4 t5 => ?_)⟩⟩
  · have hw : w = 6 := by omega
    subst hw
    refine k J r' ⟨q1, ⟨e0, q2, q3⟩, ⟨?_, ?_, ?_⟩, ⟨?_, ?_, ?_⟩, w6⟩ ?_ w3 (by omega) w5
    · rw [w2.1 _ _ (by omega) (by omega), f6.1 _ _ (by omega) (by omega), g1]
    · rw [w2.2.1 _ (by omega), f6.2.1 _ (by omega), g2]
    · rw [w2.2.2 _ (by omega), f6.2.2 _ (by omega), g3]
    · rw [w2.1 _ _ (by omega) (by omega), f1]
    · rw [w2.2.1 _ (by omega), f2]
    · rw [w2.2.2 _ (by omega), f3]
    · exact ((((Fr.al (A := nA) (Nat.le_refl _)).trans (C := nA) d6 (by omega) (fun _ _ z => z) (fun b j _ z => by omega)).trans (C := nA) g6 (by omega) (fun _ _ z => z) (fun b j _ z => by omega)).trans (C := nA) f6 (by omega) (fun _ _ z => z) (fun b j _ z => by omega)).trans w2 (by omega) (fun _ _ z => z) (fun b j _ z => by omega)
  · obtain rfl : n2 = rN r + 4 + 2 * w := e2.trans w3
    have e0' : hR (J, r') (rN r) 0 = rN r + 1 := e0
    rw [e0']
    refine ⟨⟨?_, by omega, ?_, t1.1⟩, fun h4 e4 => ⟨by omega, ?_⟩⟩
    · show rK s (rN r + 1) = 16; rw [t2.2.1 _ (by omega), q2]
    · show (w : Int) < rL s (rN r + 1); rw [t2.2.2 _ (by omega), q3]; omega
    · subst e4
      rw [wR_p]
      have u1 : Fr (fun b j => b = rN r + 1 ∧ j = w) (rN r + 4 + 2 * w + 2) s (upR s (rN r + 1) w (rN r + 4 + 2 * w)) := Fr.up ⟨rfl, rfl⟩
      have u2 : Fr (fun b j => b = rN r + 1 ∧ j = w) (rN r + 4 + 2 * w) r' (upR s (rN r + 1) w (rN r + 4 + 2 * w)) := t2.trans u1 (by omega) (fun b j z => absurd z id) (fun b j _ z => z)
      refine ih _ _ ⟨w + 1, L, _, by omega, by omega, rfl, w2.trans u2 (by omega) (fun b j z => z) (fun b j _ z => z.1), ?_, ?_, ?_, fun v hv => ?_⟩ (by omega)
      · show rN s = _; omega
      · show rS s = _; omega
      · have := w5.trans t5 (by omega)
        rw [show rN r + 4 + 2 * (w + 1) = rN r + 4 + 2 * w + 2 by omega]
        exact this
      · rcases (show v < w ∨ v = w by omega) with hv | hv
        · obtain ⟨v1, v2⟩ := w6 v hv
          exact ⟨by rw [u2.1 _ _ (by omega) (by omega)]; exact v1, v2.fr u2 (by omega) (by omega) (by omega)⟩
        · subst hv
          refine ⟨upR_self _ _ _ _, ?_⟩
          have := t1.fr u1 (by omega) (by omega) (by omega)
          rw [show rN r + 5 + 2 * v = rN r + 4 + 2 * v + 1 by omega]
          exact this
