/-! MODEL, part 1: its cells, and the helpers -/
def Mst (r : Rs) : Prop := rK r 363 = 11 ∧
  (rR r 363 1 = 364 ∧ rK r 364 = 12 ∧ rL r 364 = 240) ∧ (rR r 363 7 = 365 ∧ rK r 365 = 12 ∧ rL r 365 = 60) ∧ (rR r 363 8 = 366 ∧ rK r 366 = 12 ∧ rL r 366 = 6) ∧ (rR r 363 9 = 367 ∧ rK r 367 = 12 ∧ rL r 367 = 48) ∧
  (rR r 363 12 = 368 ∧ rK r 368 = 12 ∧ rL r 368 = 6) ∧ (rR r 363 13 = 369 ∧ rK r 369 = 12 ∧ rL r 369 = 48) ∧ (rR r 363 14 = 370 ∧ rK r 370 = 12 ∧ rL r 370 = 103) ∧ (rR r 363 15 = 371 ∧ rK r 371 = 12 ∧ rL r 371 = 3090) ∧
  (rR r 363 17 = 372 ∧ rK r 372 = 12 ∧ rL r 372 = 206) ∧ (rR r 363 18 = 373 ∧ rK r 373 = 12 ∧ rL r 373 = 2) ∧ (rR r 363 19 = 374 ∧ rK r 374 = 15 ∧ rL r 374 = 2) ∧ (rR r 363 22 = 375 ∧ rK r 375 = 12 ∧ rL r 375 = 6) ∧
  (rR r 363 23 = 376 ∧ rK r 376 = 12 ∧ rL r 376 = 6) ∧ (rR r 363 24 = 377 ∧ rK r 377 = 15 ∧ rL r 377 = 6) ∧ (rR r 363 26 = 378 ∧ rK r 378 = 12 ∧ rL r 378 = 20) ∧ (rR r 363 27 = 379 ∧ rK r 379 = 12 ∧ rL r 379 = 20) ∧
  (rR r 363 28 = 380 ∧ rK r 380 = 12 ∧ rL r 380 = 15360) ∧ (rR r 363 30 = 381 ∧ rK r 381 = 12 ∧ rL r 381 = 15360) ∧ (rR r 363 32 = 382 ∧ rK r 382 = 12 ∧ rL r 382 = 15360) ∧ (rR r 363 34 = 383 ∧ rK r 383 = 12 ∧ rL r 383 = 3660) ∧
  (rR r 363 35 = 384 ∧ rK r 384 = 12 ∧ rL r 384 = 61) ∧ (rR r 363 36 = 385 ∧ rK r 385 = 12 ∧ rL r 385 = 61) ∧ (rR r 363 37 = 386 ∧ rK r 386 = 12 ∧ rL r 386 = 61) ∧ (rR r 363 38 = 387 ∧ rK r 387 = 12 ∧ rL r 387 = 120) ∧ (rR r 363 39 = 388 ∧ rK r 388 = 12 ∧ rL r 388 = 6)
theorem m_is {v a b : Int} {h : Hp} {Q : Int → Hp → Prop} (k1 : a ≤ v ∧ v ≤ b → Q 1 h) (k0 : ¬ (a ≤ v ∧ v ≤ b) → Q 0 h) : C_X12_is v a b h Q := by
  apply G_X12_is
  unfold V_X12_is
  refine ⟨fun c => k0 (by omega), fun c => ⟨fun c2 => k0 (by omega), fun c2 => k1 (by omega)⟩⟩
theorem cpy_0 (I : Im) (a : Nat) (i : Int) (b : Nat) (j : Int) : cpy I a i b j 0 = I := by
  funext c k
  unfold cpy
  rw [if_neg (by omega)]
theorem cpy_step {I : Im} {a : Nat} {i : Int} {b : Nat} {j t : Int} (ht : 0 ≤ t) (hov : a ≠ b ∨ j ≤ i) : upI (cpy I a i b j t) b (j + t) (cpy I a i b j t a (i + t)) = cpy I a i b j (t + 1) := by
  have e : cpy I a i b j t a (i + t) = I a (i + t) := if_neg (by omega)
  rw [e]
  funext c k
  unfold upI cpy
  by_cases h1 : c = b ∧ k = j + t
  · rw [if_pos h1, if_pos (by omega)]
    congr 1
    omega
  · rw [if_neg h1]
    by_cases h2 : c = b ∧ j ≤ k ∧ k < j + t
    · rw [if_pos h2, if_pos (by omega)]
    · rw [if_neg h2, if_neg (by omega)]
theorem m_bring {I : Im} {r : Rs} {a : Nat} {i : Int} {b : Nat} {j n : Int} {Q : Hp → Prop} (ka : rK r a = 12) (kb : rK r b = 12) (h0 : 0 ≤ i) (h1 : i + n ≤ rL r a) (h2 : 0 ≤ j) (h3 : j + n ≤ rL r b) (hn : 0 ≤ n) (hla : rL r a ≤ 1000000) (hlb : rL r b ≤ 1000000) (hov : a ≠ b ∨ j ≤ i) (k : Q (cpy I a i b j n, r)) : C_X12_bring a i b j n (I, r) Q := by
  apply G_X12_bring
  unfold V_X12_bring
  refine Lp_X12_bring_3_ind (fun t h => 0 ≤ t ∧ t ≤ n ∧ h = (cpy I a i b j t, r)) (fun t _ => (n - t).toNat) ?_ _ _ ⟨by omega, hn, by rw [cpy_0]⟩
  intro P t h hI ih
  obtain ⟨t0, t1, rfl⟩ := hI
  unfold BLp_X12_bring_3
  simp only [hK_p, hL_p, hI_p, wI_p]
  refine ⟨fun c => ?_, fun c => ⟨⟨by omega, by omega⟩, ⟨by omega, by omega⟩, ⟨ka, by omega, by omega⟩, ⟨kb, by omega, by omega⟩, fun h1 e1 => ⟨⟨by omega, by omega⟩, ih _ _ ⟨by omega, by omega, ?_⟩ (by omega)⟩⟩⟩
  · have : t = n := by omega
    rw [← this] at k
    exact k
  · rw [e1, cpy_step t0 hov]
/-- what is said so far -/
def sd (I : Im) (out : List Int) : Prop := I 363 31 = out.length ∧ Seg (I 381) 0 out
theorem m_say {I : Im} {r : Rs} {v : Int} {out : List Int} {Q : Hp → Prop} (m : Mst r) (hs : sd I out) (hl : out.length < 15360) (k : ∀ I', sd I' (out ++ [v]) → Ex (fun a k => a = 381 ∨ (a = 363 ∧ k = 31)) I I' → Q (I', r)) : C_X12_say 363 v (I, r) Q := by
  have m' := m
  unfold Mst at m'
  obtain ⟨e1, e2⟩ := hs
  apply G_X12_say
  unfold V_X12_say
  simp only [hK_p, hL_p, hI_p, hR_p, wI_p, m', e1]
  refine ⟨trivial, trivial, ⟨trivial, by omega, by omega⟩, fun h1 e => ?_⟩
  subst e
  have e3 : upI I 381 (out.length : Int) v 363 31 = out.length := by rw [upI_ne (by omega), e1]
  simp only [hK_p, hL_p, hI_p, hR_p, wI_p, m', e3]
  refine ⟨trivial, ⟨by omega, by omega⟩, trivial, fun h2 e => ?_⟩
  subst e
  refine k _ ⟨?_, ?_⟩ (fun b j hb => ?_)
  · rw [upI_self]; simp
  · refine e2.snoc (fun q q1 q2 => ?_) ?_
    · rw [upI_ne (by omega), upI_ne (by omega)]
    · rw [upI_ne (by omega), Int.zero_add, upI_self]
  · rw [upI_ne (by omega), upI_ne (by omega)]
