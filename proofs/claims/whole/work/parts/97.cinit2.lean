/-! HOW IT BEGINS, part 2: the parts of the object -/
theorem n_dt {I : Im} {r : Rs} {n1 : Nat} {h2 : Hp} {Q : Hp → Prop} (ha : rN r = 3) (e1 : n1 = 3) (e2 : h2 = al (I, r) 1 0 7) (k : ∀ J r', sDt r' → sWL r' 7 → Fr nA 3 r r' → rN r' = 23 → rS r' = rS r + 449 → In 3 23 I J → Q (upI J 3 5 (-1), r')) : hK h2 n1 = 1 ∧ C_X1_init n1 h2 Q := by
  subst e1 e2
  rw [al_p, ha]
  have k2 : rK (alR r 1 0 7) 3 = 1 := by have := alR_Kn r 1 0 7; rw [ha] at this; exact this
  have N1 : rN (alR r 1 0 7) = 4 := by show rN r + 1 = 4; omega
  refine ⟨k2, ?_⟩
  apply G_X1_init
  unfold V_X1_init
  refine ⟨k2, arr_step (N := 4) (S := rS r + 7) N1 rfl (by omega) k2 (by omega) (fun r2 d => ?_)⟩
  obtain ⟨d1, d2, d3, d4, d5, d6⟩ := d
  have k3 : rK r2 3 = 1 := (d6.2.1 _ (by omega)).trans k2
  refine fun n2 e2 h3 e3 => n_fig (a := 5) d4 (e2.trans d4) e3 (by omega) (fun J r3 f2 x2 N2 S2 i2 => ?_)
  obtain rfl : n2 = 5 := e2.trans d4
  have k4 : rK r3 3 = 1 := (x2.2.1 _ (by omega)).trans k3
  refine ⟨k4, fun h4 e4 => ?_⟩
  subst e4
  rw [wR_p]
  refine fun n3 e3 h5 e5 => n_wl (r := upR r3 3 1 5) (a := 7) N2 (e3.trans N2) e5 (fun K r4 w1 w2 w3 w4 w5 => ?_)
  obtain rfl : n3 = 7 := e3.trans N2
  have w4' : rS r4 = rS r3 + 140 := w4
  have k5 : rK r4 3 = 1 := (w2.2.1 _ (by omega)).trans k4
  refine ⟨k5, fun h6 e6 => ?_⟩
  subst e6
  rw [wR_p]
  refine ⟨k5, fun h7 e7 => ?_⟩
  subst e7
  rw [wI_p]
  have u0 : Fr (fun b j => b = 3 ∧ j = 1) 7 r3 (upR r3 3 1 5) := Fr.up ⟨rfl, rfl⟩
  have u1 : Fr (fun b j => b = 3 ∧ j = 2) 23 r4 (upR r4 3 2 7) := Fr.up ⟨rfl, rfl⟩
  have u2 : Fr (fun b j => b = 3 ∧ j = 2) 7 (upR r3 3 1 5) (upR r4 3 2 7) := w2.trans u1 (by omega) (fun b j z => absurd z id) (fun b j _ z => z)
  have u3 : Fr (fun b j => b = 3 ∧ (j = 1 ∨ j = 2)) 7 r3 (upR r4 3 2 7) := u0.trans u2 (by omega) (fun b j z => by omega) (fun b j _ z => by omega)
  have u4 : Fr (fun b j => b = 3 ∧ (j = 1 ∨ j = 2)) 5 r2 (upR r4 3 2 7) := x2.trans u3 (by omega) (fun b j z => absurd z id) (fun b j _ z => z)
  refine k K _ ⟨?_, ⟨?_, ?_, ?_⟩, ?_, ?_, ?_⟩ (w1.fr u1 (by omega) (fun b j hb => by omega)) ?_ w3 ?_ ?_
  · exact k5
  · rw [u4.1 _ _ (by omega) (by omega), d1]
  · rw [u4.2.1 _ (by omega), d2]
  · rw [u4.2.2 _ (by omega), d3]
  · rw [u2.1 _ _ (by omega) (by omega), upR_self]
  · exact upR_self _ _ _ _
  · exact f2.fr u3 (by omega) (by omega) (by omega)
  · exact ((Fr.al (A := nA) (by omega)).trans (C := nA) d6 (by omega) (fun _ _ z => z) (fun b j _ z => by omega)).trans u4 (by omega) (fun _ _ z => z) (fun b j _ z => by omega)
  · show rS r4 = _; omega
  · exact ((((In.al _ I).trans (In.al _ _) (by omega))).trans i2 (by omega)).trans w5 (by omega)
theorem n_ps {I : Im} {r : Rs} {n1 : Nat} {h2 : Hp} {Q : Hp → Prop} (ha : rN r = 44) (e1 : n1 = 44) (e2 : h2 = al (I, r) 6 0 3) (k : ∀ I' r', sPs r' → Fr nA 44 r r' → rN r' = 196 → rS r' = rS r + 3243 → In 44 196 I I' → Q (I', r')) : hK h2 n1 = 6 ∧ C_X6_init n1 h2 Q := by
  subst e1 e2
  rw [al_p, ha]
  have k2 : rK (alR r 6 0 3) 44 = 6 := by have := alR_Kn r 6 0 3; rw [ha] at this; exact this
  have N1 : rN (alR r 6 0 3) = 45 := by show rN r + 1 = 45; omega
  refine ⟨k2, ?_⟩
  apply G_X6_init
  unfold V_X6_init
  refine ⟨k2, arr_step (N := 45) (S := rS r + 3) N1 rfl (by omega) k2 (by omega) (fun r2 d => ?_)⟩
  obtain ⟨d1, d2, d3, d4, d5, d6⟩ := d
  refine Lp_X6_init_15_ind (fun x hh => ∃ (w : Nat) (J : Im) (r' : Rs), x = w ∧ w ≤ 30 ∧ hh = (J, r') ∧ Fr (fun b _ => b = 45) 46 r2 r' ∧ rN r' = 46 + 5 * w ∧ rS r' = rS r + 33 + 107 * w ∧ In 44 (46 + 5 * w) I J ∧ ∀ v : Nat, v < w → rR r' 45 v = 46 + 5 * v ∧ Ss r' (46 + 5 * v)) (fun x _ => 30 - x.toNat) ?_ _ _ ⟨0, _, r2, rfl, by omega, rfl, Fr.refl _, d4, d5, (In.al _ I).trans (In.al _ _) (by omega), fun v hv => absurd hv (by omega)⟩
  intro P x hh hI ih
  obtain ⟨w, J, r', rfl, w1, rfl, w2, w3, w4, w5, w6⟩ := hI
  have e0 : rR r' 44 0 = 45 := by rw [w2.1 _ _ (by omega) (by omega), d1]
  have q1 : rK r' 44 = 6 := by rw [w2.2.1 _ (by omega), d6.2.1 _ (by omega), k2]
  have q2 : rK r' 45 = 17 := by rw [w2.2.1 _ (by omega), d2]
  have q3 : rL r' 45 = 30 := by rw [w2.2.2 _ (by omega), d3]
  unfold BLp_X6_init_15
  refine ⟨fun z => ?_, fun z => ⟨q1, fun n2 e2 h3 e3 => n_st (a := 46 + 5 * w) w3 (e2.trans w3) e3 (fun L s t1 t2 t3 t4 t5 => ?_)⟩⟩
  · have hw : w = 30 := by omega
    subst hw
    exact k J r' ⟨q1, ⟨e0, q2, q3⟩, w6⟩ (((Fr.al (A := nA) (by omega)).trans (C := nA) d6 (by omega) (fun _ _ z => z) (fun b j _ z => by omega)).trans w2 (by omega) (fun _ _ z => z) (fun b j _ z => by omega)) w3 w4 w5
  · obtain rfl : n2 = 46 + 5 * w := e2.trans w3
    have e0' : hR (J, r') 44 0 = 45 := e0
    rw [e0']
    refine ⟨⟨?_, by omega, ?_, t1.1⟩, fun h4 e4 => ⟨by omega, ?_⟩⟩
    · show rK s 45 = 17; rw [t2.2.1 _ (by omega), q2]
    · show (w : Int) < rL s 45; rw [t2.2.2 _ (by omega), q3]; omega
    · subst e4
      rw [wR_p]
      have u1 : Fr (fun b j => b = 45 ∧ j = w) (46 + 5 * w + 5) s (upR s 45 w (46 + 5 * w)) := Fr.up ⟨rfl, rfl⟩
      have u2 : Fr (fun b j => b = 45 ∧ j = w) (46 + 5 * w) r' (upR s 45 w (46 + 5 * w)) := t2.trans u1 (by omega) (fun b j z => absurd z id) (fun b j _ z => z)
      refine ih _ _ ⟨w + 1, L, _, by omega, by omega, rfl, w2.trans u2 (by omega) (fun b j z => z) (fun b j _ z => z.1), ?_, ?_, ?_, fun v hv => ?_⟩ (by omega)
      · show rN s = _; omega
      · show rS s = _; omega
      · have := w5.trans t5 (by omega)
        rw [show 46 + 5 * (w + 1) = 46 + 5 * w + 5 by omega]
        exact this
      · rcases (show v < w ∨ v = w by omega) with hv | hv
        · obtain ⟨v1, v2⟩ := w6 v hv
          exact ⟨by rw [u2.1 _ _ (by omega) (by omega)]; exact v1, v2.fr u2 (by omega) (fun b j hb => by omega)⟩
        · subst hv
          exact ⟨upR_self _ _ _ _, t1.fr u1 (by omega) (fun b j hb => by omega)⟩
theorem n_im {I : Im} {r : Rs} {n1 : Nat} {h2 : Hp} {Q : Hp → Prop} (ha : rN r = 196) (e1 : n1 = 196) (e2 : h2 = al (I, r) 4 0 3) (k : ∀ I' r', sIs r' → Fr nA 196 r r' → rN r' = 210 → rS r' = rS r + 223 → In 196 210 I I' → Q (I', r')) : hK h2 n1 = 4 ∧ C_X4_init n1 h2 Q := by
  subst e1 e2
  rw [al_p, ha]
  have k2 : rK (alR r 4 0 3) 196 = 4 := by have := alR_Kn r 4 0 3; rw [ha] at this; exact this
  have N1 : rN (alR r 4 0 3) = 197 := by show rN r + 1 = 197; omega
  refine ⟨k2, ?_⟩
  apply G_X4_init
  unfold V_X4_init
  refine ⟨k2, arr_step (N := 197) (S := rS r + 3) N1 rfl (by omega) k2 (by omega) (fun r2 d => ?_)⟩
  obtain ⟨d1, d2, d3, d4, d5, d6⟩ := d
  have k3 : rK r2 196 = 4 := (d6.2.1 _ (by omega)).trans k2
  refine arr_step (N := 198) (S := rS r + 5) d4 d5 (by omega) k3 (by omega) (fun r3 g => ?_)
  obtain ⟨g1, g2, g3, g4, g5, g6⟩ := g
  have k4 : rK r3 196 = 4 := (g6.2.1 _ (by omega)).trans k3
  refine arr_step (N := 199) (S := rS r + 7) g4 g5 (by omega) k4 (by omega) (fun r4 f => ?_)
  obtain ⟨f1, f2, f3, f4, f5, f6⟩ := f
  have k5 : rK r4 196 = 4 := (f6.2.1 _ (by omega)).trans k4
  refine Lp_X4_init_28_ind (fun x hh => ∃ (w : Nat) (J : Im) (r' : Rs), x = w ∧ w ≤ 2 ∧ hh = (J, r') ∧ Fr (fun b _ => b = 197) 200 r4 r' ∧ rN r' = 200 + 5 * w ∧ rS r' = rS r + 9 + 107 * w ∧ In 196 (200 + 5 * w) I J ∧ ∀ v : Nat, v < w → rR r' 197 v = 200 + 5 * v ∧ Ss r' (200 + 5 * v)) (fun x _ => 2 - x.toNat) ?_ _ _ ⟨0, _, r4, rfl, by omega, rfl, Fr.refl _, f4, f5, (((In.al _ I).trans (In.al _ _) (by omega)).trans (In.al _ _) (by omega)).trans (In.al _ _) (by omega), fun v hv => absurd hv (by omega)⟩
  intro P x hh hI ih
  obtain ⟨w, J, r', rfl, w1, rfl, w2, w3, w4, w5, w6⟩ := hI
  have e0 : rR r' 196 0 = 197 := by rw [w2.1 _ _ (by omega) (by omega), f6.1 _ _ (by omega) (by omega), g6.1 _ _ (by omega) (by omega), d1]
  have q1 : rK r' 196 = 4 := by rw [w2.2.1 _ (by omega), k5]
  have q2 : rK r' 197 = 17 := by rw [w2.2.1 _ (by omega), f6.2.1 _ (by omega), g6.2.1 _ (by omega), d2]
  have q3 : rL r' 197 = 2 := by rw [w2.2.2 _ (by omega), f6.2.2 _ (by omega), g6.2.2 _ (by omega), d3]
  unfold BLp_X4_init_28
  refine ⟨fun z => ?_, fun z => ⟨q1, fun n2 e2 h3 e3 => n_st (a := 200 + 5 * w) w3 (e2.trans w3) e3 (fun L s t1 t2 t3 t4 t5 => ?_)⟩⟩
  · have hw : w = 2 := by omega
    subst hw
    refine k J r' ⟨q1, ⟨e0, q2, q3⟩, ⟨?_, ?_, ?_⟩, ⟨?_, ?_, ?_⟩, w6⟩ ?_ w3 w4 w5
    · rw [w2.1 _ _ (by omega) (by omega), f6.1 _ _ (by omega) (by omega), g1]
    · rw [w2.2.1 _ (by omega), f6.2.1 _ (by omega), g2]
    · rw [w2.2.2 _ (by omega), f6.2.2 _ (by omega), g3]
    · rw [w2.1 _ _ (by omega) (by omega), f1]
    · rw [w2.2.1 _ (by omega), f2]
    · rw [w2.2.2 _ (by omega), f3]
    · exact ((((Fr.al (A := nA) (by omega)).trans (C := nA) d6 (by omega) (fun _ _ z => z) (fun b j _ z => by omega)).trans (C := nA) g6 (by omega) (fun _ _ z => z) (fun b j _ z => by omega)).trans (C := nA) f6 (by omega) (fun _ _ z => z) (fun b j _ z => by omega)).trans w2 (by omega) (fun _ _ z => z) (fun b j _ z => by omega)
  · obtain rfl : n2 = 200 + 5 * w := e2.trans w3
    have e0' : hR (J, r') 196 0 = 197 := e0
    rw [e0']
    refine ⟨⟨?_, by omega, ?_, t1.1⟩, fun h4 e4 => ⟨by omega, ?_⟩⟩
    · show rK s 197 = 17; rw [t2.2.1 _ (by omega), q2]
    · show (w : Int) < rL s 197; rw [t2.2.2 _ (by omega), q3]; omega
    · subst e4
      rw [wR_p]
      have u1 : Fr (fun b j => b = 197 ∧ j = w) (200 + 5 * w + 5) s (upR s 197 w (200 + 5 * w)) := Fr.up ⟨rfl, rfl⟩
      have u2 : Fr (fun b j => b = 197 ∧ j = w) (200 + 5 * w) r' (upR s 197 w (200 + 5 * w)) := t2.trans u1 (by omega) (fun b j z => absurd z id) (fun b j _ z => z)
      refine ih _ _ ⟨w + 1, L, _, by omega, by omega, rfl, w2.trans u2 (by omega) (fun b j z => z) (fun b j _ z => z.1), ?_, ?_, ?_, fun v hv => ?_⟩ (by omega)
      · show rN s = _; omega
      · show rS s = _; omega
      · have := w5.trans t5 (by omega)
        rw [show 200 + 5 * (w + 1) = 200 + 5 * w + 5 by omega]
        exact this
      · rcases (show v < w ∨ v = w by omega) with hv | hv
        · obtain ⟨v1, v2⟩ := w6 v hv
          exact ⟨by rw [u2.1 _ _ (by omega) (by omega)]; exact v1, v2.fr u2 (by omega) (fun b j hb => by omega)⟩
        · subst hv
          exact ⟨upR_self _ _ _ _, t1.fr u1 (by omega) (fun b j hb => by omega)⟩
theorem n_hd {I : Im} {r : Rs} {n1 : Nat} {h2 : Hp} {Q : Hp → Prop} (ha : rN r = 210) (e1 : n1 = 210) (e2 : h2 = al (I, r) 3 0 5) (k : ∀ I' r', sHs r' → Fr nA 210 r r' → rN r' = 227 → rS r' = rS r + 137 → In 210 227 I I' → Q (I', r')) : hK h2 n1 = 3 ∧ C_X3_init n1 h2 Q := by
  subst e1 e2
  rw [al_p, ha]
  have k2 : rK (alR r 3 0 5) 210 = 3 := by have := alR_Kn r 3 0 5; rw [ha] at this; exact this
  have N1 : rN (alR r 3 0 5) = 211 := by show rN r + 1 = 211; omega
  refine ⟨k2, ?_⟩
  apply G_X3_init
  unfold V_X3_init
  refine ⟨k2, arr_step (N := 211) (S := rS r + 5) N1 rfl (by omega) k2 (by omega) (fun r2 d => ?_)⟩
  obtain ⟨d1, d2, d3, d4, d5, d6⟩ := d
  have k3 : rK r2 210 = 3 := (d6.2.1 _ (by omega)).trans k2
  refine arr_step (N := 212) (S := rS r + 11) d4 d5 (by omega) k3 (by omega) (fun r3 g => ?_)
  obtain ⟨g1, g2, g3, g4, g5, g6⟩ := g
  have k4 : rK r3 210 = 3 := (g6.2.1 _ (by omega)).trans k3
  refine arr_step (N := 213) (S := rS r + 17) g4 g5 (by omega) k4 (by omega) (fun r4 f => ?_)
  obtain ⟨f1, f2, f3, f4, f5, f6⟩ := f
  have k5 : rK r4 210 = 3 := (f6.2.1 _ (by omega)).trans k4
  refine arr_step (N := 214) (S := rS r + 23) f4 f5 (by omega) k5 (by omega) (fun r5 p => ?_)
  obtain ⟨p1, p2, p3, p4, p5, p6⟩ := p
  have k6 : rK r5 210 = 3 := (p6.2.1 _ (by omega)).trans k5
  refine Lp_X3_init_39_ind (fun x hh => ∃ (w : Nat) (J : Im) (r' : Rs), x = w ∧ w ≤ 6 ∧ hh = (J, r') ∧ Fr (fun b _ => b = 214) 215 r5 r' ∧ rN r' = 215 + 2 * w ∧ rS r' = rS r + 29 + 18 * w ∧ In 210 (215 + 2 * w) I J ∧ ∀ v : Nat, v < w → rR r' 214 v = 215 + 2 * v ∧ Fs r' (215 + 2 * v) (216 + 2 * v) 16) (fun x _ => 6 - x.toNat) ?_ _ _ ⟨0, _, r5, rfl, by omega, rfl, Fr.refl _, p4, p5, ((((In.al _ I).trans (In.al _ _) (by omega)).trans (In.al _ _) (by omega)).trans (In.al _ _) (by omega)).trans (In.al _ _) (by omega), fun v hv => absurd hv (by omega)⟩
  intro P x hh hI ih
  obtain ⟨w, J, r', rfl, w1, rfl, w2, w3, w4, w5, w6⟩ := hI
  have e0 : rR r' 210 3 = 214 := by rw [w2.1 _ _ (by omega) (by omega), p1]
  have q1 : rK r' 210 = 3 := by rw [w2.2.1 _ (by omega), k6]
  have q2 : rK r' 214 = 16 := by rw [w2.2.1 _ (by omega), p2]
  have q3 : rL r' 214 = 6 := by rw [w2.2.2 _ (by omega), p3]
  unfold BLp_X3_init_39
  refine ⟨fun z => ?_, fun z => ⟨q1, fun n2 e2 h3 e3 => n_fig (a := 215 + 2 * w) w3 (e2.trans w3) e3 (by omega) (fun L s t1 t2 t3 t4 t5 => ?_)⟩⟩
  · have hw : w = 6 := by omega
    subst hw
    refine k J r' ⟨q1, ⟨?_, ?_, ?_⟩, ⟨?_, ?_, ?_⟩, ⟨?_, ?_, ?_⟩, ⟨e0, q2, q3⟩, w6⟩ ?_ w3 w4 w5
    · rw [w2.1 _ _ (by omega) (by omega), p6.1 _ _ (by omega) (by omega), f6.1 _ _ (by omega) (by omega), g6.1 _ _ (by omega) (by omega), d1]
    · rw [w2.2.1 _ (by omega), p6.2.1 _ (by omega), f6.2.1 _ (by omega), g6.2.1 _ (by omega), d2]
    · rw [w2.2.2 _ (by omega), p6.2.2 _ (by omega), f6.2.2 _ (by omega), g6.2.2 _ (by omega), d3]
    · rw [w2.1 _ _ (by omega) (by omega), p6.1 _ _ (by omega) (by omega), f6.1 _ _ (by omega) (by omega), g1]
    · rw [w2.2.1 _ (by omega), p6.2.1 _ (by omega), f6.2.1 _ (by omega), g2]
    · rw [w2.2.2 _ (by omega), p6.2.2 _ (by omega), f6.2.2 _ (by omega), g3]
    · rw [w2.1 _ _ (by omega) (by omega), p6.1 _ _ (by omega) (by omega), f1]
    · rw [w2.2.1 _ (by omega), p6.2.1 _ (by omega), f2]
    · rw [w2.2.2 _ (by omega), p6.2.2 _ (by omega), f3]
    · exact (((((Fr.al (A := nA) (by omega)).trans (C := nA) d6 (by omega) (fun _ _ z => z) (fun b j _ z => by omega)).trans (C := nA) g6 (by omega) (fun _ _ z => z) (fun b j _ z => by omega)).trans (C := nA) f6 (by omega) (fun _ _ z => z) (fun b j _ z => by omega)).trans (C := nA) p6 (by omega) (fun _ _ z => z) (fun b j _ z => by omega)).trans w2 (by omega) (fun _ _ z => z) (fun b j _ z => by omega)
  · obtain rfl : n2 = 215 + 2 * w := e2.trans w3
    have e0' : hR (J, r') 210 3 = 214 := e0
    rw [e0']
    refine ⟨⟨?_, by omega, ?_, t1.1⟩, fun h4 e4 => ⟨by omega, ?_⟩⟩
    · show rK s 214 = 16; rw [t2.2.1 _ (by omega), q2]
    · show (w : Int) < rL s 214; rw [t2.2.2 _ (by omega), q3]; omega
    · subst e4
      rw [wR_p]
      have u1 : Fr (fun b j => b = 214 ∧ j = w) (215 + 2 * w + 2) s (upR s 214 w (215 + 2 * w)) := Fr.up ⟨rfl, rfl⟩
      have u2 : Fr (fun b j => b = 214 ∧ j = w) (215 + 2 * w) r' (upR s 214 w (215 + 2 * w)) := t2.trans u1 (by omega) (fun b j z => absurd z id) (fun b j _ z => z)
      refine ih _ _ ⟨w + 1, L, _, by omega, by omega, rfl, w2.trans u2 (by omega) (fun b j z => z) (fun b j _ z => z.1), ?_, ?_, ?_, fun v hv => ?_⟩ (by omega)
      · show rN s = _; omega
      · show rS s = _; omega
      · have := w5.trans t5 (by omega)
        rw [show 215 + 2 * (w + 1) = 215 + 2 * w + 2 by omega]
        exact this
      · rcases (show v < w ∨ v = w by omega) with hv | hv
        · obtain ⟨v1, v2⟩ := w6 v hv
          exact ⟨by rw [u2.1 _ _ (by omega) (by omega)]; exact v1, v2.fr u2 (by omega) (by omega) (by omega)⟩
        · subst hv
          refine ⟨upR_self _ _ _ _, ?_⟩
          have := t1.fr u1 (by omega) (by omega) (by omega)
          rw [show 216 + 2 * v = 215 + 2 * v + 1 by omega]
          exact this
theorem n_bk {I : Im} {r : Rs} {n1 : Nat} {h2 : Hp} {Q : Hp → Prop} (ha : rN r = 227) (e1 : n1 = 227) (e2 : h2 = al (I, r) 0 0 3) (k : ∀ I' r', sBs r' → Fr nA 227 r r' → rN r' = 230 → rS r' = rS r + 43 → In 227 230 I I' → Q (I', r')) : hK h2 n1 = 0 ∧ C_X0_init n1 h2 Q := by
  subst e1 e2
  rw [al_p, ha]
  have k2 : rK (alR r 0 0 3) 227 = 0 := by have := alR_Kn r 0 0 3; rw [ha] at this; exact this
  have N1 : rN (alR r 0 0 3) = 228 := by show rN r + 1 = 228; omega
  refine ⟨k2, ?_⟩
  apply G_X0_init
  unfold V_X0_init
  refine ⟨k2, arr_step (N := 228) (S := rS r + 3) N1 rfl (by omega) k2 (by omega) (fun r2 d => ?_)⟩
  obtain ⟨d1, d2, d3, d4, d5, d6⟩ := d
  have k3 : rK r2 227 = 0 := (d6.2.1 _ (by omega)).trans k2
  refine arr_step (N := 229) (S := rS r + 23) d4 d5 (by omega) k3 (by omega) (fun r3 g => ?_)
  obtain ⟨g1, g2, g3, g4, g5, g6⟩ := g
  refine k _ r3 ⟨(g6.2.1 _ (by omega)).trans k3, ⟨?_, ?_, ?_⟩, ⟨g1, g2, g3⟩⟩ ?_ g4 g5 (((In.al _ I).trans (In.al _ _) (by omega)).trans (In.al _ _) (by omega))
  · rw [g6.1 _ _ (by omega) (by omega), d1]
  · rw [g6.2.1 _ (by omega), d2]
  · rw [g6.2.2 _ (by omega), d3]
  · exact ((Fr.al (A := nA) (by omega)).trans (C := nA) d6 (by omega) (fun _ _ z => z) (fun b j _ z => by omega)).trans (C := nA) g6 (by omega) (fun _ _ z => z) (fun b j _ z => by omega)
theorem n_pt {I : Im} {r : Rs} {n1 : Nat} {h2 : Hp} {Q : Hp → Prop} (ha : rN r = 358) (e1 : n1 = 358) (e2 : h2 = al (I, r) 5 0 3) (k : ∀ I' r', sPt r' → Fr nA 358 r r' → rN r' = 361 → rS r' = rS r + 123 → In 358 361 I I' → Q (I', r')) : hK h2 n1 = 5 ∧ C_X5_init n1 h2 Q := by
  subst e1 e2
  rw [al_p, ha]
  have k2 : rK (alR r 5 0 3) 358 = 5 := by have := alR_Kn r 5 0 3; rw [ha] at this; exact this
  have N1 : rN (alR r 5 0 3) = 359 := by show rN r + 1 = 359; omega
  refine ⟨k2, ?_⟩
  apply G_X5_init
  unfold V_X5_init
  refine ⟨k2, arr_step (N := 359) (S := rS r + 3) N1 rfl (by omega) k2 (by omega) (fun r2 d => ?_)⟩
  obtain ⟨d1, d2, d3, d4, d5, d6⟩ := d
  have k3 : rK r2 358 = 5 := (d6.2.1 _ (by omega)).trans k2
  refine arr_step (N := 360) (S := rS r + 63) d4 d5 (by omega) k3 (by omega) (fun r3 g => ?_)
  obtain ⟨g1, g2, g3, g4, g5, g6⟩ := g
  refine k _ r3 ⟨(g6.2.1 _ (by omega)).trans k3, ⟨?_, ?_, ?_⟩, ⟨g1, g2, g3⟩⟩ ?_ g4 g5 (((In.al _ I).trans (In.al _ _) (by omega)).trans (In.al _ _) (by omega))
  · rw [g6.1 _ _ (by omega) (by omega), d1]
  · rw [g6.2.1 _ (by omega), d2]
  · rw [g6.2.2 _ (by omega), d3]
  · exact ((Fr.al (A := nA) (by omega)).trans (C := nA) d6 (by omega) (fun _ _ z => z) (fun b j _ z => by omega)).trans (C := nA) g6 (by omega) (fun _ _ z => z) (fun b j _ z => by omega)
def sT0 (r : Rs) : Prop := rK r 230 = 8 ∧ (rR r 230 0 = 231 ∧ Fs r 231 232 120) ∧ (rR r 230 1 = 233 ∧ Fs r 233 234 120) ∧ (rR r 230 2 = 235 ∧ rK r 235 = 16 ∧ rL r 235 = 61) ∧ ∀ i : Nat, i < 61 → rR r 235 i = 236 + 2 * i ∧ Fs r (236 + 2 * i) (237 + 2 * i) 60
theorem n_tr {I : Im} {r : Rs} {n1 : Nat} {h2 : Hp} {Q : Hp → Prop} (ha : rN r = 230) (e1 : n1 = 230) (e2 : h2 = al (I, r) 8 0 4) (k : ∀ I' r', sT0 r' → Fr nA 230 r r' → rN r' = 358 → rS r' = rS r + 4091 → In 230 358 I I' → Q (I', r')) : hK h2 n1 = 8 ∧ C_X9_init n1 h2 Q := by
  subst e1 e2
  rw [al_p, ha]
  have k2 : rK (alR r 8 0 4) 230 = 8 := by have := alR_Kn r 8 0 4; rw [ha] at this; exact this
  have N1 : rN (alR r 8 0 4) = 231 := by show rN r + 1 = 231; omega
  refine ⟨k2, ?_⟩
  apply G_X9_init
  unfold V_X9_init
  refine ⟨k2, fun n2 e2 h3 e3 => n_fig (a := 231) N1 (e2.trans N1) e3 (by omega) (fun J2 r2 f2 x2 N2 S2 i2 => ?_)⟩
  obtain rfl : n2 = 231 := e2.trans N1
  have k3 : rK r2 230 = 8 := (x2.2.1 _ (by omega)).trans k2
  have S2' : rS r2 = rS r + 126 := S2
  refine ⟨k3, fun h4 e4 => ?_⟩
  subst e4
  rw [wR_p]
  refine fun n3 e3 h5 e5 => n_fig (r := upR r2 230 0 231) (a := 233) N2 (e3.trans N2) e5 (by omega) (fun J3 r3 f3 x3 N3 S3 i3 => ?_)
  obtain rfl : n3 = 233 := e3.trans N2
  have k4 : rK r3 230 = 8 := (x3.2.1 _ (by omega)).trans k3
  have S3' : rS r3 = rS r + 248 := by have S3 : rS r3 = rS r2 + 2 + 120 := S3; omega
  refine ⟨k4, fun h6 e6 => ?_⟩
  subst e6
  rw [wR_p]
  refine arr_step (N := 235) (S := rS r + 248) N3 S3' (by omega) k4 (by omega) (fun r4 d => ?_)
  obtain ⟨d1, d2, d3, d4, d5, d6⟩ := d
  have k5 : rK r4 230 = 8 := (d6.2.1 _ (by omega)).trans k4
  have u0 : Fr (fun b j => b = 230 ∧ j = 0) 233 r2 (upR r2 230 0 231) := Fr.up ⟨rfl, rfl⟩
  have u1 : Fr (fun b j => b = 230 ∧ j = 1) 235 r3 (upR r3 230 1 233) := Fr.up ⟨rfl, rfl⟩
  have u2 : Fr (fun b j => b = 230 ∧ (j = 1 ∨ j = 2)) 235 r3 r4 := u1.trans d6 (by omega) (fun b j z => by omega) (fun b j _ z => by omega)
  have u3 : Fr (fun b j => b = 230 ∧ (j = 1 ∨ j = 2)) 233 (upR r2 230 0 231) r4 := x3.trans u2 (by omega) (fun b j z => absurd z id) (fun b j _ z => z)
  have u4 : Fr (fun b j => b = 230) 233 r2 r4 := u0.trans u3 (by omega) (fun b j z => z.1) (fun b j _ z => z.1)
  refine Lp_X9_init_41_ind (fun x hh => ∃ (w : Nat) (J : Im) (r' : Rs), x = w ∧ w ≤ 61 ∧ hh = (J, r') ∧ Fr (fun b _ => b = 235) 236 r4 r' ∧ rN r' = 236 + 2 * w ∧ rS r' = rS r + 309 + 62 * w ∧ In 230 (236 + 2 * w) I J ∧ ∀ v : Nat, v < w → rR r' 235 v = 236 + 2 * v ∧ Fs r' (236 + 2 * v) (237 + 2 * v) 60) (fun x _ => 61 - x.toNat) ?_ _ _ ⟨0, _, r4, rfl, by omega, rfl, Fr.refl _, d4, d5, (((In.al _ I).trans i2 (by omega)).trans i3 (by omega)).trans (In.al _ _) (by omega), fun v hv => absurd hv (by omega)⟩
  intro P x hh hI ih
  obtain ⟨w, J, r', rfl, w1, rfl, w2, w3, w4, w5, w6⟩ := hI
  have e0 : rR r' 230 2 = 235 := by rw [w2.1 _ _ (by omega) (by omega), d1]
  have q1 : rK r' 230 = 8 := by rw [w2.2.1 _ (by omega), k5]
  have q2 : rK r' 235 = 16 := by rw [w2.2.1 _ (by omega), d2]
  have q3 : rL r' 235 = 61 := by rw [w2.2.2 _ (by omega), d3]
  unfold BLp_X9_init_41
  refine ⟨fun z => ?_, fun z => ⟨q1, fun n2 e2 h3 e3 => n_fig (a := 236 + 2 * w) w3 (e2.trans w3) e3 (by omega) (fun L s t1 t2 t3 t4 t5 => ?_)⟩⟩
  · have hw : w = 61 := by omega
    subst hw
    refine k J r' ⟨q1, ⟨?_, ?_⟩, ⟨?_, ?_⟩, ⟨e0, q2, q3⟩, w6⟩ ?_ w3 w4 w5
    · rw [w2.1 _ _ (by omega) (by omega), u3.1 _ _ (by omega) (by omega), upR_self]
    · exact (f2.fr u4 (by omega) (by omega) (by omega)).fr w2 (by omega) (by omega) (by omega)
    · rw [w2.1 _ _ (by omega) (by omega), d6.1 _ _ (by omega) (by omega), upR_self]
    · exact (f3.fr u2 (by omega) (by omega) (by omega)).fr w2 (by omega) (by omega) (by omega)
    · exact (((Fr.al (A := nA) (by omega)).trans (C := nA) x2 (by omega) (fun _ _ z => z) (fun b j _ z => z)).trans (C := nA) u4 (by omega) (fun _ _ z => z) (fun b j _ z => by omega)).trans w2 (by omega) (fun _ _ z => z) (fun b j _ z => by omega)
  · obtain rfl : n2 = 236 + 2 * w := e2.trans w3
    have e0' : hR (J, r') 230 2 = 235 := e0
    rw [e0']
    refine ⟨⟨?_, by omega, ?_, t1.1⟩, fun h4 e4 => ⟨by omega, ?_⟩⟩
    · show rK s 235 = 16; rw [t2.2.1 _ (by omega), q2]
    · show (w : Int) < rL s 235; rw [t2.2.2 _ (by omega), q3]; omega
    · subst e4
      rw [wR_p]
      have u1 : Fr (fun b j => b = 235 ∧ j = w) (236 + 2 * w + 2) s (upR s 235 w (236 + 2 * w)) := Fr.up ⟨rfl, rfl⟩
      have u2 : Fr (fun b j => b = 235 ∧ j = w) (236 + 2 * w) r' (upR s 235 w (236 + 2 * w)) := t2.trans u1 (by omega) (fun b j z => absurd z id) (fun b j _ z => z)
      refine ih _ _ ⟨w + 1, L, _, by omega, by omega, rfl, w2.trans u2 (by omega) (fun b j z => z) (fun b j _ z => z.1), ?_, ?_, ?_, fun v hv => ?_⟩ (by omega)
      · show rN s = _; omega
      · show rS s = _; omega
      · have := w5.trans t5 (by omega)
        rw [show 236 + 2 * (w + 1) = 236 + 2 * w + 2 by omega]
        exact this
      · rcases (show v < w ∨ v = w by omega) with hv | hv
        · obtain ⟨v1, v2⟩ := w6 v hv
          exact ⟨by rw [u2.1 _ _ (by omega) (by omega)]; exact v1, v2.fr u2 (by omega) (by omega) (by omega)⟩
        · subst hv
          refine ⟨upR_self _ _ _ _, ?_⟩
          have := t1.fr u1 (by omega) (by omega) (by omega)
          rw [show 237 + 2 * v = 236 + 2 * v + 1 by omega]
          exact this
