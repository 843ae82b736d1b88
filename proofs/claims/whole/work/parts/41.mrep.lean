/-! MODEL, part 4: the state in its cells -/
def mTx (I : Im) (tx : List Int) : Prop := I 363 0 = tx.length ∧ Seg (I 364) 0 tx
def mWl (I : Im) (wl : List (List Int)) : Prop := I 363 11 = wl.length ∧ ∀ (w : Nat) (x : List Int), wl[w]? = some x → I 368 w = x.length ∧ Seg (I 369) (8 * w) x
def mPa (I : Im) (pa : List NS) : Prop := I 363 16 = pa.length ∧ ∀ (j : Nat) (n : NS), pa[j]? = some n → NSm (I 371) (103 * ((pa.length : Int) - 1 - j)) n
def mIm (I : Im) (im : Nat → Option (NS × Int)) : Prop := ∀ i : Nat, i < 2 → (im i = none → I 374 i = 0) ∧ ∀ q, im i = some q → I 374 i = 1 ∧ NSm (I 372) (103 * i) q.1 ∧ I 373 i = q.2
def mHd (I : Im) (hd : List (Int × Int × Int)) : Prop := I 363 21 = hd.length ∧ Seg (I 375) 0 (hd.map (·.1)) ∧ Seg (I 376) 0 (hd.map (·.2.1)) ∧ Seg (I 377) 0 (hd.map (·.2.2))
def mBk (I : Im) (bk : List (Int × Int)) : Prop := I 363 25 = bk.length ∧ Seg (I 378) 0 (bk.map (·.1)) ∧ Seg (I 379) 0 (bk.map (·.2))
def Rm (S : St) (I : Im) : Prop := mTx I (sTx S) ∧ I 363 3 = sFl S ∧ I 363 10 = sDk S ∧ mWl I (sWl S) ∧ NSm (I 370) 0 (sNw S) ∧ mPa I (sPa S) ∧ mIm I (sIm S) ∧ I 363 20 = sSd S ∧ mHd I (sHd S) ∧ mBk I (sBk S)
theorem mTx.kept {I I' : Im} {x : List Int} (h : mTx I x) (e0 : I' 363 0 = I 363 0) (e : I' 364 = I 364) : mTx I' x := ⟨e0.trans h.1, by rw [e]; exact h.2⟩
theorem mWl.kept {I I' : Im} {x : List (List Int)} (h : mWl I x) (e0 : I' 363 11 = I 363 11) (e1 : I' 368 = I 368) (e2 : I' 369 = I 369) : mWl I' x := ⟨e0.trans h.1, by rw [e1, e2]; exact h.2⟩
theorem mPa.kept {I I' : Im} {x : List NS} (h : mPa I x) (e0 : I' 363 16 = I 363 16) (e1 : I' 371 = I 371) : mPa I' x := ⟨e0.trans h.1, by rw [e1]; exact h.2⟩
theorem mIm.kept {I I' : Im} {x : Nat → Option (NS × Int)} (h : mIm I x) (e0 : I' 372 = I 372) (e1 : I' 373 = I 373) (e2 : I' 374 = I 374) : mIm I' x := by unfold mIm; rw [e0, e1, e2]; exact h
theorem mHd.kept {I I' : Im} {x : List (Int × Int × Int)} (h : mHd I x) (e0 : I' 363 21 = I 363 21) (e1 : I' 375 = I 375) (e2 : I' 376 = I 376) (e3 : I' 377 = I 377) : mHd I' x := by unfold mHd; rw [e0, e1, e2, e3]; exact h
theorem mBk.kept {I I' : Im} {x : List (Int × Int)} (h : mBk I x) (e0 : I' 363 25 = I 363 25) (e1 : I' 378 = I 378) (e2 : I' 379 = I 379) : mBk I' x := by unfold mBk; rw [e0, e1, e2]; exact h
theorem Ex.row {A : Nat → Int → Prop} {I I' : Im} (h : Ex A I I') (a : Nat) (ha : ∀ k, ¬ A a k) : I' a = I a := funext fun k => h a k (ha k)
/-- scratch cells: everything but the state -/
abbrev aSc : Nat → Int → Prop := fun a k => (363 ≤ a ∧ a < 389) ∧ ¬ (a = 363 ∧ (k = 0 ∨ k = 3 ∨ k = 10 ∨ k = 11 ∨ k = 16 ∨ k = 20 ∨ k = 21 ∨ k = 25)) ∧ ¬ a = 364 ∧ ¬ (368 ≤ a ∧ a ≤ 379)
theorem Rm.kept {S : St} {I I' : Im} (h : Rm S I) (e : Ex aSc I I') : Rm S I' := by
  obtain ⟨h1, h2, h3, h4, h5, h6, h7, h8, h9, h10⟩ := h
  have r : ∀ a : Nat, a = 364 ∨ (368 ≤ a ∧ a ≤ 379) → I' a = I a := fun a ha => e.row a (fun k => by omega)
  refine ⟨h1.kept (e _ _ (by omega)) (r _ (by omega)), (e _ _ (by omega)).trans h2, (e _ _ (by omega)).trans h3, h4.kept (e _ _ (by omega)) (r _ (by omega)) (r _ (by omega)), by rw [r 370 (by omega)]; exact h5, h6.kept (e _ _ (by omega)) (r _ (by omega)), h7.kept (r _ (by omega)) (r _ (by omega)) (r _ (by omega)), (e _ _ (by omega)).trans h8, h9.kept (e _ _ (by omega)) (r _ (by omega)) (r _ (by omega)) (r _ (by omega)), h10.kept (e _ _ (by omega)) (r _ (by omega)) (r _ (by omega))⟩
theorem Rm.now {S : St} {I I' : Im} {n : NS} (h : Rm S I) (e : Ex (fun a k => a = 370 ∨ aSc a k) I I') (hn : NSm (I' 370) 0 n) : Rm (uNw S n) I' := by
  obtain ⟨h1, h2, h3, h4, h5, h6, h7, h8, h9, h10⟩ := h
  have r : ∀ a : Nat, a = 364 ∨ (368 ≤ a ∧ a ≤ 369) ∨ (371 ≤ a ∧ a ≤ 379) → I' a = I a := fun a ha => e.row a (fun k => by omega)
  exact ⟨h1.kept (e _ _ (by omega)) (r _ (by omega)), (e _ _ (by omega)).trans h2, (e _ _ (by omega)).trans h3, h4.kept (e _ _ (by omega)) (r _ (by omega)) (r _ (by omega)), hn, h6.kept (e _ _ (by omega)) (r _ (by omega)), h7.kept (r _ (by omega)) (r _ (by omega)) (r _ (by omega)), (e _ _ (by omega)).trans h8, h9.kept (e _ _ (by omega)) (r _ (by omega)) (r _ (by omega)) (r _ (by omega)), h10.kept (e _ _ (by omega)) (r _ (by omega)) (r _ (by omega))⟩
theorem Rm.past {S : St} {I I' : Im} {p : List NS} (h : Rm S I) (e : Ex (fun a k => a = 371 ∨ (a = 363 ∧ k = 16) ∨ aSc a k) I I') (hp : mPa I' p) : Rm (uNP S (sNw S) p) I' := by
  obtain ⟨h1, h2, h3, h4, h5, h6, h7, h8, h9, h10⟩ := h
  have r : ∀ a : Nat, a = 364 ∨ (368 ≤ a ∧ a ≤ 370) ∨ (372 ≤ a ∧ a ≤ 379) → I' a = I a := fun a ha => e.row a (fun k => by omega)
  exact ⟨h1.kept (e _ _ (by omega)) (r _ (by omega)), (e _ _ (by omega)).trans h2, (e _ _ (by omega)).trans h3, h4.kept (e _ _ (by omega)) (r _ (by omega)) (r _ (by omega)), by rw [r 370 (by omega)]; exact h5, hp, h7.kept (r _ (by omega)) (r _ (by omega)) (r _ (by omega)), (e _ _ (by omega)).trans h8, h9.kept (e _ _ (by omega)) (r _ (by omega)) (r _ (by omega)) (r _ (by omega)), h10.kept (e _ _ (by omega)) (r _ (by omega)) (r _ (by omega))⟩
/-- the model's own cells -/
abbrev aM : Nat → Int → Prop := fun a _ => 363 ≤ a ∧ a < 389
abbrev aNote : Nat → Int → Prop := fun a k => a = 371 ∨ (a = 363 ∧ k = 16)
theorem m_note {S : St} {I : Im} {r : Rs} {Q : Hp → Prop} (m : Mst r) (hR : Rm S I) (w : WF S) (k : ∀ I', Rm (uNP S (sNw S) (push S)) I' → Ex aNote I I' → Q (I', r)) : C_X12_note 363 (I, r) Q := by
  have m' := m
  unfold Mst at m'
  obtain ⟨p1, p2⟩ := hR.2.2.2.2.2.1
  have hnow := hR.2.2.2.2.1
  have okn : NSok (sNw S) := w.2.2.2.2.1
  obtain ⟨kp1, kp2⟩ : okPa (sPa S) := w.2.2.2.2.2.1
  have fin : ∀ (J : Im) (p : List NS), p.length ≤ 29 → J 363 16 = p.length → (∀ (j : Nat) (n : NS), p[j]? = some n → NSm (J 371) (103 * ((p.length : Int) - 1 - j)) n) → (∀ n ∈ p, NSok n) → Ex aNote I J → push S = sNw S :: p → J_X12_note_36 363 (J, r) Q := by
    intro J p hl e16 hp okp ej hpush
    have hnJ : J 370 = I 370 := ej.row 370 (fun k => by omega)
    unfold J_X12_note_36
    simp only [hK_p, hL_p, hI_p, hR_p, wI_p, cpI_p, hN_p, forall_eq, true_and, and_true, ne_eq, not_true_eq_false, not_false_eq_true, true_implies, false_implies, imp_false, implies_true, if_true, if_false, reduceCtorEq, m', e16]
    refine ⟨⟨by omega, by omega⟩, ?_⟩
    refine m_bring (by simp only [m']) (by simp only [m']) (by omega) (by simp only [m']; omega) (by omega) (by simp only [m']; omega) (by omega) (by simp only [m']; omega) (by simp only [m']; omega) (Or.inl (by omega)) ?_
    have e2 : cpy J 370 0 371 (103 * (p.length : Int)) 103 363 16 = p.length := by rw [cpy_at, if_neg (by omega), e16]
    simp only [hK_p, hL_p, hI_p, hR_p, wI_p, cpI_p, hN_p, forall_eq, true_and, and_true, ne_eq, not_true_eq_false, not_false_eq_true, true_implies, false_implies, imp_false, implies_true, if_true, if_false, reduceCtorEq, m', e2]
    refine ⟨⟨by omega, by omega⟩, ?_⟩
    have ex2 : Ex aNote I (upI (cpy J 370 0 371 (103 * (p.length : Int)) 103) 363 16 ((p.length : Int) + 1)) := by
      intro a q hq
      rw [upI_ne (by omega), cpy_at, if_neg (by omega), ej a q hq]
    refine k _ (hR.past (ex2.mono (fun a q h => by omega)) ?_) ex2
    rw [hpush]
    refine ⟨by rw [upI_self]; simp, fun j n hj => ?_⟩
    cases j with
    | zero =>
      simp at hj
      subst hj
      refine hnow.shift okn (fun q q0 q1 => ?_)
      rw [upI_ne (by omega), cpy_at, if_pos (by simp; omega), hnJ]
      congr 1
      simp; omega
    | succ j =>
      have hj' : p[j]? = some n := by simpa using hj
      have hjl := (List.getElem?_eq_some_iff.mp hj').1
      have okn' := okp n (List.mem_of_getElem? hj')
      refine (hp j n hj').shift okn' (fun q q0 q1 => ?_)
      rw [upI_ne (by omega), cpy_at, if_neg (by simp; omega)]
      congr 1
      simp; omega
  apply G_X12_note
  unfold V_X12_note
  simp only [hK_p, hL_p, hI_p, hR_p, wI_p, cpI_p, hN_p, forall_eq, true_and, and_true, ne_eq, not_true_eq_false, not_false_eq_true, true_implies, false_implies, imp_false, implies_true, if_true, if_false, reduceCtorEq, m', p1]
  refine ⟨fun c => ?_, fun c => ?_⟩
  · refine fin I (sPa S) (by omega) p1 p2 kp2 (Ex.refl I) ?_
    unfold push
    rw [List.take_of_length_le (by simp; omega)]
  · refine m_bring (by simp only [m']) (by simp only [m']) (by omega) (by simp only [m']; omega) (by omega) (by simp only [m']; omega) (by omega) (by simp only [m']; omega) (by simp only [m']; omega) (Or.inr (by omega)) ?_
    have e2 : cpy I 371 103 371 0 2987 363 16 = (sPa S).length := by rw [cpy_at, if_neg (by omega), p1]
    simp only [hK_p, hL_p, hI_p, hR_p, wI_p, cpI_p, hN_p, forall_eq, true_and, and_true, ne_eq, not_true_eq_false, not_false_eq_true, true_implies, false_implies, imp_false, implies_true, if_true, if_false, reduceCtorEq, m', e2]
    refine ⟨⟨by omega, by omega⟩, ?_⟩
    have hlen : (sPa S).length = 30 := by omega
    refine fin _ ((sPa S).take 29) (by simp; omega) (by rw [upI_self]; simp; omega) (fun j n hj => ?_) (fun n hn => kp2 n (List.mem_of_mem_take hn)) (fun a q hq => by rw [upI_ne (by omega), cpy_at, if_neg (by omega)]) ?_
    · rw [List.getElem?_take] at hj
      split at hj
      · rename_i hj29
        have okn' := kp2 n (List.mem_of_getElem? hj)
        refine (p2 j n hj).shift okn' (fun q q0 q1 => ?_)
        rw [List.length_take, upI_ne (by omega), cpy_at, if_pos (by omega)]
        congr 1
        omega
      · cases hj
    · unfold push
      rw [List.take_succ_cons]
