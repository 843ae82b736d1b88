/-! HOW IT BEGINS, part 3: the object, and the other one -/
def sC0 (r : Rs) : Prop := sRa r ∧ sDt r ∧ sWL r 7 ∧ sWL r 23 ∧ Ss r 39 ∧ sPs r ∧ sIs r ∧ sHs r ∧ sBs r ∧ sT0 r ∧ sPt r ∧ Fs r 361 362 120
theorem sDt.fr {A : Nat → Int → Prop} {N : Nat} {r r' : Rs} (h : sDt r) (x : Fr A N r r') (hN : 7 ≤ N) (hA : ∀ b k, 3 ≤ b → ¬ A b k) : sDt r' := by
  obtain ⟨a1, ⟨a2, a3, a4⟩, a5, a6, a7⟩ := h
  exact ⟨(x.2.1 _ (by omega)).trans a1, ⟨(x.1 _ _ (by omega) (hA _ _ (by omega))).trans a2, (x.2.1 _ (by omega)).trans a3, (x.2.2 _ (by omega)).trans a4⟩, (x.1 _ _ (by omega) (hA _ _ (by omega))).trans a5, (x.1 _ _ (by omega) (hA _ _ (by omega))).trans a6, a7.fr x (by omega) (by omega) (hA _ _ (by omega))⟩
theorem sPs.fr {A : Nat → Int → Prop} {N : Nat} {r r' : Rs} (h : sPs r) (x : Fr A N r r') (hN : 196 ≤ N) (hA : ∀ b k, 3 ≤ b → ¬ A b k) : sPs r' := by
  obtain ⟨a1, ⟨a2, a3, a4⟩, a5⟩ := h
  exact ⟨(x.2.1 _ (by omega)).trans a1, ⟨(x.1 _ _ (by omega) (hA _ _ (by omega))).trans a2, (x.2.1 _ (by omega)).trans a3, (x.2.2 _ (by omega)).trans a4⟩, fun i hi => ⟨(x.1 _ _ (by omega) (hA _ _ (by omega))).trans (a5 i hi).1, (a5 i hi).2.fr x (by omega) (fun b k hb => hA b k (by omega))⟩⟩
theorem sIs.fr {A : Nat → Int → Prop} {N : Nat} {r r' : Rs} (h : sIs r) (x : Fr A N r r') (hN : 210 ≤ N) (hA : ∀ b k, 3 ≤ b → ¬ A b k) : sIs r' := by
  obtain ⟨a1, ⟨a2, a3, a4⟩, ⟨a5, a6, a7⟩, ⟨a8, a9, a10⟩, a11⟩ := h
  exact ⟨(x.2.1 _ (by omega)).trans a1, ⟨(x.1 _ _ (by omega) (hA _ _ (by omega))).trans a2, (x.2.1 _ (by omega)).trans a3, (x.2.2 _ (by omega)).trans a4⟩, ⟨(x.1 _ _ (by omega) (hA _ _ (by omega))).trans a5, (x.2.1 _ (by omega)).trans a6, (x.2.2 _ (by omega)).trans a7⟩, ⟨(x.1 _ _ (by omega) (hA _ _ (by omega))).trans a8, (x.2.1 _ (by omega)).trans a9, (x.2.2 _ (by omega)).trans a10⟩, fun i hi => ⟨(x.1 _ _ (by omega) (hA _ _ (by omega))).trans (a11 i hi).1, (a11 i hi).2.fr x (by omega) (fun b k hb => hA b k (by omega))⟩⟩
theorem sHs.fr {A : Nat → Int → Prop} {N : Nat} {r r' : Rs} (h : sHs r) (x : Fr A N r r') (hN : 227 ≤ N) (hA : ∀ b k, 3 ≤ b → ¬ A b k) : sHs r' := by
  obtain ⟨a1, ⟨a2, a3, a4⟩, ⟨a5, a6, a7⟩, ⟨a8, a9, a10⟩, ⟨a11, a12, a13⟩, a14⟩ := h
  exact ⟨(x.2.1 _ (by omega)).trans a1, ⟨(x.1 _ _ (by omega) (hA _ _ (by omega))).trans a2, (x.2.1 _ (by omega)).trans a3, (x.2.2 _ (by omega)).trans a4⟩, ⟨(x.1 _ _ (by omega) (hA _ _ (by omega))).trans a5, (x.2.1 _ (by omega)).trans a6, (x.2.2 _ (by omega)).trans a7⟩, ⟨(x.1 _ _ (by omega) (hA _ _ (by omega))).trans a8, (x.2.1 _ (by omega)).trans a9, (x.2.2 _ (by omega)).trans a10⟩, ⟨(x.1 _ _ (by omega) (hA _ _ (by omega))).trans a11, (x.2.1 _ (by omega)).trans a12, (x.2.2 _ (by omega)).trans a13⟩, fun i hi => ⟨(x.1 _ _ (by omega) (hA _ _ (by omega))).trans (a14 i hi).1, (a14 i hi).2.fr x (by omega) (by omega) (hA _ _ (by omega))⟩⟩
theorem sBs.fr {A : Nat → Int → Prop} {N : Nat} {r r' : Rs} (h : sBs r) (x : Fr A N r r') (hN : 230 ≤ N) (hA : ∀ b k, 3 ≤ b → ¬ A b k) : sBs r' := by
  obtain ⟨a1, ⟨a2, a3, a4⟩, a5, a6, a7⟩ := h
  exact ⟨(x.2.1 _ (by omega)).trans a1, ⟨(x.1 _ _ (by omega) (hA _ _ (by omega))).trans a2, (x.2.1 _ (by omega)).trans a3, (x.2.2 _ (by omega)).trans a4⟩, (x.1 _ _ (by omega) (hA _ _ (by omega))).trans a5, (x.2.1 _ (by omega)).trans a6, (x.2.2 _ (by omega)).trans a7⟩
theorem sPt.fr {A : Nat → Int → Prop} {N : Nat} {r r' : Rs} (h : sPt r) (x : Fr A N r r') (hN : 361 ≤ N) (hA : ∀ b k, 3 ≤ b → ¬ A b k) : sPt r' := by
  obtain ⟨a1, ⟨a2, a3, a4⟩, a5, a6, a7⟩ := h
  exact ⟨(x.2.1 _ (by omega)).trans a1, ⟨(x.1 _ _ (by omega) (hA _ _ (by omega))).trans a2, (x.2.1 _ (by omega)).trans a3, (x.2.2 _ (by omega)).trans a4⟩, (x.1 _ _ (by omega) (hA _ _ (by omega))).trans a5, (x.2.1 _ (by omega)).trans a6, (x.2.2 _ (by omega)).trans a7⟩
theorem sT0.fr {A : Nat → Int → Prop} {N : Nat} {r r' : Rs} (h : sT0 r) (x : Fr A N r r') (hN : 358 ≤ N) (hA : ∀ b k, 3 ≤ b → ¬ A b k) : sT0 r' := by
  obtain ⟨a1, ⟨a2, a3⟩, ⟨a4, a5⟩, ⟨a6, a7, a8⟩, a9⟩ := h
  exact ⟨(x.2.1 _ (by omega)).trans a1, ⟨(x.1 _ _ (by omega) (hA _ _ (by omega))).trans a2, a3.fr x (by omega) (by omega) (hA _ _ (by omega))⟩, ⟨(x.1 _ _ (by omega) (hA _ _ (by omega))).trans a4, a5.fr x (by omega) (by omega) (hA _ _ (by omega))⟩, ⟨(x.1 _ _ (by omega) (hA _ _ (by omega))).trans a6, (x.2.1 _ (by omega)).trans a7, (x.2.2 _ (by omega)).trans a8⟩, fun i hi => ⟨(x.1 _ _ (by omega) (hA _ _ (by omega))).trans (a9 i hi).1, (a9 i hi).2.fr x (by omega) (by omega) (hA _ _ (by omega))⟩⟩
theorem sC0.fr {N : Nat} {r r' : Rs} (h : sC0 r) (x : Fr nA N r r') (hN : 363 ≤ N) : sC0 r' := by
  obtain ⟨h1, h2, h3, h4, h5, h6, h7, h8, h9, h10, h11, h12⟩ := h
  refine ⟨?_, h2.fr x (by omega) (fun _ _ _ z => z), h3.fr x (by omega) (fun _ _ _ z => z), h4.fr x (by omega) (fun _ _ _ z => z), h5.fr x (by omega) (fun _ _ _ z => z), h6.fr x (by omega) (fun _ _ _ z => z), h7.fr x (by omega) (fun _ _ _ z => z), h8.fr x (by omega) (fun _ _ _ z => z), h9.fr x (by omega) (fun _ _ _ z => z), h10.fr x (by omega) (fun _ _ _ z => z), h11.fr x (by omega) (fun _ _ _ z => z), h12.fr x (by omega) (by omega) (fun z => z)⟩
  obtain ⟨a0, a1, a2, a3, a4, a5, a6, a7, a8, a9, a10⟩ := h1
  exact ⟨(x.2.1 _ (by omega)).trans a0, (x.1 _ _ (by omega) id).trans a1, (x.1 _ _ (by omega) id).trans a2, (x.1 _ _ (by omega) id).trans a3, (x.1 _ _ (by omega) id).trans a4, (x.1 _ _ (by omega) id).trans a5, (x.1 _ _ (by omega) id).trans a6, (x.1 _ _ (by omega) id).trans a7, (x.1 _ _ (by omega) id).trans a8, (x.1 _ _ (by omega) id).trans a9, (x.1 _ _ (by omega) id).trans a10⟩
theorem n_ra {I : Im} {r : Rs} {n1 : Nat} {h2 : Hp} {Q : Hp → Prop} (ha : rN r = 2) (e1 : n1 = 2) (e2 : h2 = al (I, r) 10 0 12) (k : ∀ (I' : Im) (r' : Rs), sC0 r' → Fr nA 2 r r' → rN r' = 363 → rS r' = rS r + 8690 → (∀ (b : Nat) (k : Int), b < 2 → I' b k = I b k) → (∀ (b : Nat) (k : Int), 2 ≤ b → b < 363 → I' b k = if b = 3 ∧ k = 5 then -1 else 0) → Q (I', r')) : hK h2 n1 = 10 ∧ C_X11_init n1 h2 Q := by
  subst e1 e2
  rw [al_p, ha]
  have k0 : rK (alR r 10 0 12) 2 = 10 := by have := alR_Kn r 10 0 12; rw [ha] at this; exact this
  have N0 : rN (alR r 10 0 12) = 3 := by show rN r + 1 = 3; omega
  refine ⟨k0, ?_⟩
  apply G_X11_init
  unfold V_X11_init
  refine ⟨k0, fun n1 e1 h2 e2 => n_dt N0 (e1.trans N0) e2 (fun J1 r1 p1 p1b x1 N1 S1 i1 => ?_)⟩
  obtain rfl : n1 = 3 := e1.trans N0
  have S1 : rS r1 = rS r + 12 + 449 := S1
  have k1 : rK r1 2 = 10 := (x1.2.1 _ (by omega)).trans k0
  refine ⟨k1, fun h3 e3 => ?_⟩
  subst e3
  rw [wR_p]
  refine fun n2 e2 hz ez => n_wl (r := upR r1 2 0 3) (a := 23) N1 (e2.trans N1) ez (fun J2 r2 p2 x2 N2 S2 i2 => ?_)
  obtain rfl : n2 = 23 := e2.trans N1
  have k2 : rK r2 2 = 10 := (x2.2.1 _ (by omega)).trans k1
  have S2 : rS r2 = rS r1 + 140 := S2
  refine ⟨k2, fun h3 e3 => ?_⟩
  subst e3
  rw [wR_p]
  refine fun n3 e3 hz ez => n_st (r := upR r2 2 1 23) (a := 39) N2 (e3.trans N2) ez (fun J3 r3 p3 x3 N3 S3 i3 => ?_)
  obtain rfl : n3 = 39 := e3.trans N2
  have k3 : rK r3 2 = 10 := (x3.2.1 _ (by omega)).trans k2
  have S3 : rS r3 = rS r2 + 107 := S3
  refine ⟨k3, fun h3 e3 => ?_⟩
  subst e3
  rw [wR_p]
  refine fun n4 e4 hz ez => n_ps (r := upR r3 2 2 39)  N3 (e4.trans N3) ez (fun J4 r4 p4 x4 N4 S4 i4 => ?_)
  obtain rfl : n4 = 44 := e4.trans N3
  have k4 : rK r4 2 = 10 := (x4.2.1 _ (by omega)).trans k3
  have S4 : rS r4 = rS r3 + 3243 := S4
  refine ⟨k4, fun h3 e3 => ?_⟩
  subst e3
  rw [wR_p]
  refine fun n5 e5 hz ez => n_im (r := upR r4 2 3 44)  N4 (e5.trans N4) ez (fun J5 r5 p5 x5 N5 S5 i5 => ?_)
  obtain rfl : n5 = 196 := e5.trans N4
  have k5 : rK r5 2 = 10 := (x5.2.1 _ (by omega)).trans k4
  have S5 : rS r5 = rS r4 + 223 := S5
  refine ⟨k5, fun h3 e3 => ?_⟩
  subst e3
  rw [wR_p]
  refine fun n6 e6 hz ez => n_hd (r := upR r5 2 4 196)  N5 (e6.trans N5) ez (fun J6 r6 p6 x6 N6 S6 i6 => ?_)
  obtain rfl : n6 = 210 := e6.trans N5
  have k6 : rK r6 2 = 10 := (x6.2.1 _ (by omega)).trans k5
  have S6 : rS r6 = rS r5 + 137 := S6
  refine ⟨k6, fun h3 e3 => ?_⟩
  subst e3
  rw [wR_p]
  refine fun n7 e7 hz ez => n_bk (r := upR r6 2 5 210)  N6 (e7.trans N6) ez (fun J7 r7 p7 x7 N7 S7 i7 => ?_)
  obtain rfl : n7 = 227 := e7.trans N6
  have k7 : rK r7 2 = 10 := (x7.2.1 _ (by omega)).trans k6
  have S7 : rS r7 = rS r6 + 43 := S7
  refine ⟨k7, fun h3 e3 => ?_⟩
  subst e3
  rw [wR_p]
  refine fun n8 e8 hz ez => n_tr (r := upR r7 2 6 227)  N7 (e8.trans N7) ez (fun J8 r8 p8 x8 N8 S8 i8 => ?_)
  obtain rfl : n8 = 230 := e8.trans N7
  have k8 : rK r8 2 = 10 := (x8.2.1 _ (by omega)).trans k7
  have S8 : rS r8 = rS r7 + 4091 := S8
  refine ⟨k8, fun h3 e3 => ?_⟩
  subst e3
  rw [wR_p]
  refine fun n9 e9 hz ez => n_pt (r := upR r8 2 7 230)  N8 (e9.trans N8) ez (fun J9 r9 p9 x9 N9 S9 i9 => ?_)
  obtain rfl : n9 = 358 := e9.trans N8
  have k9 : rK r9 2 = 10 := (x9.2.1 _ (by omega)).trans k8
  have S9 : rS r9 = rS r8 + 123 := S9
  refine ⟨k9, fun h3 e3 => ?_⟩
  subst e3
  rw [wR_p]
  refine fun n10 e10 hz ez => n_fig (r := upR r9 2 8 358) (a := 361) N9 (e10.trans N9) ez (by omega) (fun J10 r10 p10 x10 N10 S10 i10 => ?_)
  obtain rfl : n10 = 361 := e10.trans N9
  have k10 : rK r10 2 = 10 := (x10.2.1 _ (by omega)).trans k9
  have S10 : rS r10 = rS r9 + 2 + 120 := S10
  refine ⟨k10, fun h3 e3 => ?_⟩
  subst e3
  rw [wR_p]
  have u9 : Fr (fun b j => b = 2 ∧ 10 ≤ j) 363 (upR r10 2 9 361) (upR r10 2 9 361) := Fr.refl _
  have g9 : Fr (fun b j => b = 2 ∧ 9 ≤ j) 363 r10 (upR r10 2 9 361) := (Fr.up (A := fun b j => b = 2 ∧ j = 9) ⟨rfl, rfl⟩).trans u9 (by omega) (fun b j z => by omega) (fun b j _ z => by omega)
  have u8 : Fr (fun b j => b = 2 ∧ 9 ≤ j) 361 (upR r9 2 8 358) (upR r10 2 9 361) := x10.trans g9 (by omega) (fun b j z => absurd z id) (fun b j _ z => z)
  have g8 : Fr (fun b j => b = 2 ∧ 8 ≤ j) 361 r9 (upR r10 2 9 361) := (Fr.up (A := fun b j => b = 2 ∧ j = 8) ⟨rfl, rfl⟩).trans u8 (by omega) (fun b j z => by omega) (fun b j _ z => by omega)
  have u7 : Fr (fun b j => b = 2 ∧ 8 ≤ j) 358 (upR r8 2 7 230) (upR r10 2 9 361) := x9.trans g8 (by omega) (fun b j z => absurd z id) (fun b j _ z => z)
  have g7 : Fr (fun b j => b = 2 ∧ 7 ≤ j) 358 r8 (upR r10 2 9 361) := (Fr.up (A := fun b j => b = 2 ∧ j = 7) ⟨rfl, rfl⟩).trans u7 (by omega) (fun b j z => by omega) (fun b j _ z => by omega)
  have u6 : Fr (fun b j => b = 2 ∧ 7 ≤ j) 230 (upR r7 2 6 227) (upR r10 2 9 361) := x8.trans g7 (by omega) (fun b j z => absurd z id) (fun b j _ z => z)
  have g6 : Fr (fun b j => b = 2 ∧ 6 ≤ j) 230 r7 (upR r10 2 9 361) := (Fr.up (A := fun b j => b = 2 ∧ j = 6) ⟨rfl, rfl⟩).trans u6 (by omega) (fun b j z => by omega) (fun b j _ z => by omega)
  have u5 : Fr (fun b j => b = 2 ∧ 6 ≤ j) 227 (upR r6 2 5 210) (upR r10 2 9 361) := x7.trans g6 (by omega) (fun b j z => absurd z id) (fun b j _ z => z)
  have g5 : Fr (fun b j => b = 2 ∧ 5 ≤ j) 227 r6 (upR r10 2 9 361) := (Fr.up (A := fun b j => b = 2 ∧ j = 5) ⟨rfl, rfl⟩).trans u5 (by omega) (fun b j z => by omega) (fun b j _ z => by omega)
  have u4 : Fr (fun b j => b = 2 ∧ 5 ≤ j) 210 (upR r5 2 4 196) (upR r10 2 9 361) := x6.trans g5 (by omega) (fun b j z => absurd z id) (fun b j _ z => z)
  have g4 : Fr (fun b j => b = 2 ∧ 4 ≤ j) 210 r5 (upR r10 2 9 361) := (Fr.up (A := fun b j => b = 2 ∧ j = 4) ⟨rfl, rfl⟩).trans u4 (by omega) (fun b j z => by omega) (fun b j _ z => by omega)
  have u3 : Fr (fun b j => b = 2 ∧ 4 ≤ j) 196 (upR r4 2 3 44) (upR r10 2 9 361) := x5.trans g4 (by omega) (fun b j z => absurd z id) (fun b j _ z => z)
  have g3 : Fr (fun b j => b = 2 ∧ 3 ≤ j) 196 r4 (upR r10 2 9 361) := (Fr.up (A := fun b j => b = 2 ∧ j = 3) ⟨rfl, rfl⟩).trans u3 (by omega) (fun b j z => by omega) (fun b j _ z => by omega)
  have u2 : Fr (fun b j => b = 2 ∧ 3 ≤ j) 44 (upR r3 2 2 39) (upR r10 2 9 361) := x4.trans g3 (by omega) (fun b j z => absurd z id) (fun b j _ z => z)
  have g2 : Fr (fun b j => b = 2 ∧ 2 ≤ j) 44 r3 (upR r10 2 9 361) := (Fr.up (A := fun b j => b = 2 ∧ j = 2) ⟨rfl, rfl⟩).trans u2 (by omega) (fun b j z => by omega) (fun b j _ z => by omega)
  have u1 : Fr (fun b j => b = 2 ∧ 2 ≤ j) 39 (upR r2 2 1 23) (upR r10 2 9 361) := x3.trans g2 (by omega) (fun b j z => absurd z id) (fun b j _ z => z)
  have g1 : Fr (fun b j => b = 2 ∧ 1 ≤ j) 39 r2 (upR r10 2 9 361) := (Fr.up (A := fun b j => b = 2 ∧ j = 1) ⟨rfl, rfl⟩).trans u1 (by omega) (fun b j z => by omega) (fun b j _ z => by omega)
  have u0 : Fr (fun b j => b = 2 ∧ 1 ≤ j) 23 (upR r1 2 0 3) (upR r10 2 9 361) := x2.trans g1 (by omega) (fun b j z => absurd z id) (fun b j _ z => z)
  have g0 : Fr (fun b j => b = 2 ∧ 0 ≤ j) 23 r1 (upR r10 2 9 361) := (Fr.up (A := fun b j => b = 2 ∧ j = 0) ⟨rfl, rfl⟩).trans u0 (by omega) (fun b j z => by omega) (fun b j _ z => by omega)
  refine k J10 _ ⟨⟨?_, ?_, ?_, ?_, ?_, ?_, ?_, ?_, ?_, ?_, upR_self _ _ _ _⟩, p1.fr g0 (by omega) (fun b j hb => by omega), p1b.fr g0 (by omega) (fun b j hb => by omega), p2.fr g1 (by omega) (fun b j hb => by omega), p3.fr g2 (by omega) (fun b j hb => by omega), p4.fr g3 (by omega) (fun b j hb => by omega), p5.fr g4 (by omega) (fun b j hb => by omega), p6.fr g5 (by omega) (fun b j hb => by omega), p7.fr g6 (by omega) (fun b j hb => by omega), p8.fr g7 (by omega) (fun b j hb => by omega), p9.fr g8 (by omega) (fun b j hb => by omega), p10.fr g9 (by omega) (by omega) (by omega)⟩ ?_ N10 ?_ (fun b j hb => ?_) (fun b j hb hb2 => ?_)
  · exact k10
  · rw [u0.1 _ _ (by omega) (by omega), upR_self]
  · rw [u1.1 _ _ (by omega) (by omega), upR_self]
  · rw [u2.1 _ _ (by omega) (by omega), upR_self]
  · rw [u3.1 _ _ (by omega) (by omega), upR_self]
  · rw [u4.1 _ _ (by omega) (by omega), upR_self]
  · rw [u5.1 _ _ (by omega) (by omega), upR_self]
  · rw [u6.1 _ _ (by omega) (by omega), upR_self]
  · rw [u7.1 _ _ (by omega) (by omega), upR_self]
  · rw [u8.1 _ _ (by omega) (by omega), upR_self]
  · exact ((Fr.al (A := nA) (by omega)).trans (C := nA) x1 (by omega) (fun _ _ z => z) (fun _ _ _ z => z)).trans g0 (by omega) (fun _ _ z => z) (fun b j _ z => by omega)
  · show rS r10 = _; omega
  · rw [i10.1 b j (by omega), i9.1 b j (by omega), i8.1 b j (by omega), i7.1 b j (by omega), i6.1 b j (by omega), i5.1 b j (by omega), i4.1 b j (by omega), i3.1 b j (by omega), i2.1 b j (by omega), upI_ne (by omega), i1.1 b j (by omega), alI_ne (by omega)]
  · have t := ((((((((i2.trans i3 (by omega)).trans i4 (by omega)).trans i5 (by omega)).trans i6 (by omega)).trans i7 (by omega)).trans i8 (by omega)).trans i9 (by omega)).trans i10 (by omega))
    by_cases e : 23 ≤ b
    · rw [t.2 b j e hb2, if_neg (by omega)]
    · rw [t.1 b j (by omega), upI_at]
      by_cases e2 : b = 3 ∧ j = 5
      · rw [if_pos e2, if_pos e2]
      · rw [if_neg e2, if_neg e2]
        by_cases e3 : 3 ≤ b
        · exact i1.2 b j e3 (by omega)
        · rw [i1.1 b j (by omega), show b = 2 by omega]; exact if_pos rfl
def Arr (r : Rs) (x N0 : Nat) (l : List (Int × Nat × Int)) : Prop := ∀ (i : Nat) (e : Int × Nat × Int), l[i]? = some e → rR r x e.1 = N0 + i ∧ rK r (N0 + i) = e.2.1 ∧ rL r (N0 + i) = e.2.2
def Mk (r0 r : Rs) (I0 I : Im) (l : List (Int × Nat × Int)) (s : Nat) : Prop := Arr r 363 364 l ∧ rK r 363 = 11 ∧ Fr (fun b _ => b = 363) 364 r0 r ∧ rN r = 364 + l.length ∧ rS r = s ∧ In 364 (364 + l.length) I0 I
theorem mk_step {r0 r : Rs} {I0 I : Im} {l : List (Int × Nat × Int)} {s kd : Nat} {n k : Int} {R : Hp → Prop} (h : Mk r0 r I0 I l s) (hn : 0 ≤ n ∧ n ≤ 100000000) (hk : ∀ e ∈ l, e.1 ≠ k) (kk : ∀ I' r', Mk r0 r' I0 I' (l ++ [(k, kd, n)]) (s + n.toNat) → R (I', r')) : (0 ≤ n ∧ n ≤ (100000000 : Int)) ∧ ∀ n1 : Nat, n1 = hN (I, r) → ∀ h2 : Hp, h2 = al (I, r) kd n (Int.toNat n) → (hK h2 363 = 11 ∧ ∀ h3 : Hp, h3 = wR h2 363 k n1 → R h3) := by
  obtain ⟨m1, m2, m3, m4, m5, m6⟩ := h
  refine arr_step m4 m5 hn m2 (by omega) (fun r' d => kk _ r' ⟨?_, ?_, ?_, ?_, ?_, ?_⟩)
  · obtain ⟨d1, d2, d3, d4, d5, d6⟩ := d
    intro i e he
    by_cases hi : i < l.length
    · rw [List.getElem?_append_left hi] at he
      obtain ⟨q1, q2, q3⟩ := m1 i e he
      have := hk e (List.mem_of_getElem? he)
      exact ⟨by rw [d6.1 _ _ (by omega) (by omega), q1], by rw [d6.2.1 _ (by omega), q2], by rw [d6.2.2 _ (by omega), q3]⟩
    · rw [List.getElem?_append_right (by omega)] at he
      have hz : i - l.length < 1 := (List.getElem?_eq_some_iff.mp he).1
      rw [show i - l.length = 0 by omega] at he
      have he : (k, kd, n) = e := Option.some.inj he
      subst he
      rw [show i = l.length by omega]
      exact ⟨d1, d2, d3⟩
  · exact (d.2.2.2.2.2.2.1 _ (by omega)).trans m2
  · exact m3.trans d.2.2.2.2.2 (by omega) (fun b j z => z) (fun b j _ z => z.1)
  · rw [d.2.2.2.1, List.length_append]; rfl
  · exact d.2.2.2.2.1
  · rw [List.length_append]; exact m6.trans (In.al _ _) (by omega)
theorem n_md {I : Im} {r : Rs} {n1 : Nat} {h2 : Hp} {Q : Hp → Prop} (ha : rN r = 363) (e1 : n1 = 363) (e2 : h2 = al (I, r) 11 0 40) (k : ∀ (I' : Im) (r' : Rs), Mst r' → Fr nA 363 r r' → rN r' = 389 → rS r' = rS r + 53958 → (∀ (b : Nat) (k : Int), b < 363 → I' b k = I b k) → (∀ (b : Nat) (k : Int), 363 ≤ b → b < 389 → I' b k = if b = 363 ∧ k = 3 then -1 else 0) → Q (I', r')) : hK h2 n1 = 11 ∧ C_X12_init n1 h2 Q := by
  subst e1 e2
  rw [al_p, ha]
  have k0 : rK (alR r 11 0 40) 363 = 11 := by have := alR_Kn r 11 0 40; rw [ha] at this; exact this
  have N0 : rN (alR r 11 0 40) = 364 := by show rN r + 1 = 364; omega
  refine ⟨k0, ?_⟩
  apply G_X12_init
  unfold V_X12_init
  have m : Mk (alR r 11 0 40) (alR r 11 0 40) (alI I 363) (alI I 363) [] (rS r + 40) := ⟨fun i e he => (by cases he), k0, Fr.refl _, N0, rfl, In.refl _ _⟩
  refine ⟨k0, mk_step m (by omega) (by decide) (fun J r2 m => ⟨m.2.1, fun h4 e4 => ?_⟩)⟩
  subst e4
  rw [wI_p]
  have m : Mk (alR r 11 0 40) r2 (upI (alI I 363) 363 3 (-1)) (upI J 363 3 (-1)) [(1, 12, 240)] (rS r + 280) := by
    obtain ⟨m1, m2, m3, m4, m5, m6⟩ := m
    refine ⟨m1, m2, m3, m4, by omega, fun b j hb => ?_, fun b j hb hb2 => ?_⟩
    · rw [upI_at, upI_at, m6.1 b j hb]
    · rw [upI_ne (by omega)]; exact m6.2 b j hb hb2
  refine mk_step m (by omega) (by decide) (fun J r2 m => ?_)
  refine mk_step m (by omega) (by decide) (fun J r2 m => ?_)
  refine mk_step m (by omega) (by decide) (fun J r2 m => ?_)
  refine mk_step m (by omega) (by decide) (fun J r2 m => ?_)
  refine mk_step m (by omega) (by decide) (fun J r2 m => ?_)
  refine mk_step m (by omega) (by decide) (fun J r2 m => ?_)
  refine mk_step m (by omega) (by decide) (fun J r2 m => ?_)
  refine mk_step m (by omega) (by decide) (fun J r2 m => ?_)
  refine mk_step m (by omega) (by decide) (fun J r2 m => ?_)
  refine mk_step m (by omega) (by decide) (fun J r2 m => ?_)
  refine mk_step m (by omega) (by decide) (fun J r2 m => ?_)
  refine mk_step m (by omega) (by decide) (fun J r2 m => ?_)
  refine mk_step m (by omega) (by decide) (fun J r2 m => ?_)
  refine mk_step m (by omega) (by decide) (fun J r2 m => ?_)
  refine mk_step m (by omega) (by decide) (fun J r2 m => ?_)
  refine mk_step m (by omega) (by decide) (fun J r2 m => ?_)
  refine mk_step m (by omega) (by decide) (fun J r2 m => ?_)
  refine mk_step m (by omega) (by decide) (fun J r2 m => ?_)
  refine mk_step m (by omega) (by decide) (fun J r2 m => ?_)
  refine mk_step m (by omega) (by decide) (fun J r2 m => ?_)
  refine mk_step m (by omega) (by decide) (fun J r2 m => ?_)
  refine mk_step m (by omega) (by decide) (fun J r2 m => ?_)
  refine mk_step m (by omega) (by decide) (fun J r2 m => ?_)
  refine mk_step m (by omega) (by decide) (fun J r2 m => ?_)
  obtain ⟨m1, m2, m3, m4, m5, m6⟩ := m
  refine k J r2 ⟨m2, m1 0 (1, 12, 240) rfl, m1 1 (7, 12, 60) rfl, m1 2 (8, 12, 6) rfl, m1 3 (9, 12, 48) rfl, m1 4 (12, 12, 6) rfl, m1 5 (13, 12, 48) rfl, m1 6 (14, 12, 103) rfl, m1 7 (15, 12, 3090) rfl, m1 8 (17, 12, 206) rfl, m1 9 (18, 12, 2) rfl, m1 10 (19, 15, 2) rfl, m1 11 (22, 12, 6) rfl, m1 12 (23, 12, 6) rfl, m1 13 (24, 15, 6) rfl, m1 14 (26, 12, 20) rfl, m1 15 (27, 12, 20) rfl, m1 16 (28, 12, 15360) rfl, m1 17 (30, 12, 15360) rfl, m1 18 (32, 12, 15360) rfl, m1 19 (34, 12, 3660) rfl, m1 20 (35, 12, 61) rfl, m1 21 (36, 12, 61) rfl, m1 22 (37, 12, 61) rfl, m1 23 (38, 12, 120) rfl, m1 24 (39, 12, 6) rfl⟩ ((Fr.al (A := nA) (by omega)).trans (C := nA) m3 (by omega) (fun _ _ z => z) (fun b j _ z => by omega)) m4 (by omega) (fun b j hb => ?_) (fun b j hb hb2 => ?_)
  · rw [m6.1 b j (by omega), upI_ne (by omega), alI_ne (by omega)]
  · by_cases e : b = 363
    · rw [m6.1 b j (by omega), upI_at]
      by_cases e2 : b = 363 ∧ j = 3
      · rw [if_pos e2, if_pos e2]
      · rw [if_neg e2, if_neg e2, e]; exact if_pos rfl
    · rw [if_neg (by omega)]
      exact m6.2 b j (by omega) hb2
/-- the state of a new object -/
def St0 : St := ([], -1, 0, [], ([], 0, []), [], fun _ => none, 0, [], [])
theorem wf_0 : WF St0 := by
  refine ⟨⟨by decide, fun v hv => by cases hv⟩, by decide, Or.inl rfl, ⟨by decide, fun v hv => by cases hv⟩, ⟨by decide, fun v hv => (by cases hv), by decide, by decide, fun v hv => by cases hv⟩, ⟨by decide, fun v hv => by cases hv⟩, fun i q hq => (by cases hq), by unfold okSd; decide, ⟨by decide, fun v hv => by cases hv⟩, ⟨by decide, fun v hv => by cases hv⟩⟩
theorem Rc_0 {I : Im} (h : ∀ (b : Nat) (k : Int), 2 ≤ b → b < 363 → I b k = if b = 3 ∧ k = 5 then -1 else 0) : Rc St0 I := by
  have z : ∀ (b : Nat) (k : Int), 2 ≤ b → b < 363 → ¬ (b = 3 ∧ k = 5) → I b k = 0 := fun b k h1 h2 h3 => by rw [h b k h1 h2, if_neg h3]
  refine ⟨⟨z _ _ (by omega) (by omega) (by omega), Seg.nil _ _⟩, by rw [h _ _ (by omega) (by omega), if_pos ⟨rfl, rfl⟩]; rfl, z _ _ (by omega) (by omega) (by omega), ⟨z _ _ (by omega) (by omega) (by omega), fun w x hx => by cases hx⟩, ⟨⟨z _ _ (by omega) (by omega) (by omega), Seg.nil _ _⟩, z _ _ (by omega) (by omega) (by omega), z _ _ (by omega) (by omega) (by omega), Seg.nil _ _, Seg.nil _ _, fun q _ _ => ?_⟩, ⟨0, by omega, z _ _ (by omega) (by omega) (by omega), z _ _ (by omega) (by omega) (by omega), fun j n hn => by cases hn⟩, fun i hi => ⟨fun _ => z _ _ (by omega) (by omega) (by omega), fun q hq => by cases hq⟩, z _ _ (by omega) (by omega) (by omega), ⟨z _ _ (by omega) (by omega) (by omega), Seg.nil _ _, Seg.nil _ _, Seg.nil _ _⟩, ⟨z _ _ (by omega) (by omega) (by omega), Seg.nil _ _, Seg.nil _ _⟩⟩
  rw [z _ _ (by omega) (by omega) (by omega), z _ _ (by omega) (by omega) (by omega)]
  decide
theorem Rm_0 {I : Im} (h : ∀ (b : Nat) (k : Int), 363 ≤ b → b < 389 → I b k = if b = 363 ∧ k = 3 then -1 else 0) : Rm St0 I := by
  have z : ∀ (b : Nat) (k : Int), 363 ≤ b → b < 389 → ¬ (b = 363 ∧ k = 3) → I b k = 0 := fun b k h1 h2 h3 => by rw [h b k h1 h2, if_neg h3]
  exact ⟨⟨z _ _ (by omega) (by omega) (by omega), Seg.nil _ _⟩, by rw [h _ _ (by omega) (by omega), if_pos ⟨rfl, rfl⟩]; rfl, z _ _ (by omega) (by omega) (by omega), ⟨z _ _ (by omega) (by omega) (by omega), fun w x hx => by cases hx⟩, ⟨z _ _ (by omega) (by omega) (by omega), z _ _ (by omega) (by omega) (by omega), z _ _ (by omega) (by omega) (by omega), Seg.nil _ _, Seg.nil _ _, Seg.nil _ _⟩, ⟨z _ _ (by omega) (by omega) (by omega), fun j n hn => by cases hn⟩, fun i hi => ⟨fun _ => z _ _ (by omega) (by omega) (by omega), fun q hq => by cases hq⟩, z _ _ (by omega) (by omega) (by omega), ⟨z _ _ (by omega) (by omega) (by omega), Seg.nil _ _, Seg.nil _ _, Seg.nil _ _⟩, ⟨z _ _ (by omega) (by omega) (by omega), Seg.nil _ _, Seg.nil _ _⟩⟩
theorem Cs_0 {r : Rs} (h : sC0 r) : Cs r := by
  obtain ⟨h1, h2, h3, h4, h5, h6, h7, h8, h9, h10, h11, h12⟩ := h
  exact ⟨h1, h2, h3, h4, h5, h6, h7, h8, h9, ⟨h10.1, h10.2.2.2.1, fun i hi => ⟨(h10.2.2.2.2 i hi).1, fun _ => (h10.2.2.2.2 i hi).2⟩⟩, h11, h12⟩
theorem Dyn_0 {r : Rs} (h : sC0 r) (hN : rN r = 389) (hS : rS r ≤ 100000) : Dyn r := by
  obtain ⟨h1, h2, h3, h4, h5, h6, h7, h8, h9, ⟨t1, ⟨t2, t3⟩, ⟨t4, t5⟩, t6, t7⟩, h11, h12⟩ := h
  refine ⟨231, 233, 232, 234, 239, 120, 120, 60, Or.inl ⟨rfl, rfl⟩, ⟨t2, t4⟩, t3, t5, (t7 1 (by omega)).2, ⟨Or.inl rfl, Or.inr (Or.inl rfl), Or.inr (Or.inr (Or.inl rfl))⟩, by omega, by omega, by omega, by omega, by omega, ?_, ?_⟩
  · unfold phi psi; rw [if_pos (by omega), if_pos (by omega), hN]; omega
  · unfold phi psi; rw [if_pos (by omega), if_pos (by omega)]; omega
