/-! COMPONENT, part 5: where its parts lie, and the state in its cells -/
def sWL (r : Rs) (a : Nat) : Prop := rK r a = 9 ∧ (rR r a 0 = a + 1 ∧ rK r (a + 1) = 16 ∧ rL r (a + 1) = 6) ∧ (rR r a 1 = a + 2 ∧ rK r (a + 2) = 12 ∧ rL r (a + 2) = 61) ∧ (rR r a 2 = a + 3 ∧ rK r (a + 3) = 12 ∧ rL r (a + 3) = 9) ∧ ∀ w : Nat, w < 6 → rR r (a + 1) w = a + 4 + 2 * w ∧ Fs r (a + 4 + 2 * w) (a + 5 + 2 * w) 8
def sRa (r : Rs) : Prop := rK r 2 = 10 ∧ rR r 2 0 = 3 ∧ rR r 2 1 = 23 ∧ rR r 2 2 = 39 ∧ rR r 2 3 = 44 ∧ rR r 2 4 = 196 ∧ rR r 2 5 = 210 ∧ rR r 2 6 = 227 ∧ rR r 2 7 = 230 ∧ rR r 2 8 = 358 ∧ rR r 2 9 = 361
def sDt (r : Rs) : Prop := rK r 3 = 1 ∧ (rR r 3 0 = 4 ∧ rK r 4 = 14 ∧ rL r 4 = 240) ∧ rR r 3 1 = 5 ∧ rR r 3 2 = 7 ∧ Fs r 5 6 60
def sPs (r : Rs) : Prop := rK r 44 = 6 ∧ (rR r 44 0 = 45 ∧ rK r 45 = 17 ∧ rL r 45 = 30) ∧ ∀ i : Nat, i < 30 → rR r 45 i = 46 + 5 * i ∧ Ss r (46 + 5 * i)
def sIs (r : Rs) : Prop := rK r 196 = 4 ∧ (rR r 196 0 = 197 ∧ rK r 197 = 17 ∧ rL r 197 = 2) ∧ (rR r 196 1 = 198 ∧ rK r 198 = 12 ∧ rL r 198 = 2) ∧ (rR r 196 2 = 199 ∧ rK r 199 = 15 ∧ rL r 199 = 2) ∧ ∀ i : Nat, i < 2 → rR r 197 i = 200 + 5 * i ∧ Ss r (200 + 5 * i)
def sHs (r : Rs) : Prop := rK r 210 = 3 ∧ (rR r 210 0 = 211 ∧ rK r 211 = 12 ∧ rL r 211 = 6) ∧ (rR r 210 1 = 212 ∧ rK r 212 = 12 ∧ rL r 212 = 6) ∧ (rR r 210 2 = 213 ∧ rK r 213 = 15 ∧ rL r 213 = 6) ∧ (rR r 210 3 = 214 ∧ rK r 214 = 16 ∧ rL r 214 = 6) ∧ ∀ i : Nat, i < 6 → rR r 214 i = 215 + 2 * i ∧ Fs r (215 + 2 * i) (216 + 2 * i) 16
def sBs (r : Rs) : Prop := rK r 227 = 0 ∧ (rR r 227 0 = 228 ∧ rK r 228 = 13 ∧ rL r 228 = 20) ∧ (rR r 227 1 = 229 ∧ rK r 229 = 13 ∧ rL r 229 = 20)
def sTs (r : Rs) : Prop := rK r 230 = 8 ∧ (rR r 230 2 = 235 ∧ rK r 235 = 16 ∧ rL r 235 = 61) ∧ ∀ i : Nat, i < 61 → rR r 235 i = 236 + 2 * i ∧ (i ≠ 1 → Fs r (236 + 2 * i) (237 + 2 * i) 60)
def sPt (r : Rs) : Prop := rK r 358 = 5 ∧ (rR r 358 0 = 359 ∧ rK r 359 = 12 ∧ rL r 359 = 60) ∧ (rR r 358 1 = 360 ∧ rK r 360 = 12 ∧ rL r 360 = 60)
def Cs (r : Rs) : Prop := sRa r ∧ sDt r ∧ sWL r 7 ∧ sWL r 23 ∧ Ss r 39 ∧ sPs r ∧ sIs r ∧ sHs r ∧ sBs r ∧ sTs r ∧ sPt r ∧ Fs r 361 362 120
-- the values
def cTx (I : Im) (tx : List Int) : Prop := I 3 3 = tx.length ∧ Seg (I 4) 0 tx
def cWl (I : Im) (a : Nat) (wl : List (List Int)) : Prop := I a 3 = wl.length ∧ ∀ (w : Nat) (x : List Int), wl[w]? = some x → fg I (a + 4 + 2 * w) (a + 5 + 2 * w) x
def cPa (I : Im) (pa : List NS) : Prop := ∃ nx : Nat, nx < 30 ∧ I 44 1 = nx ∧ I 44 2 = pa.length ∧ ∀ (j : Nat) (n : NS), pa[j]? = some n → cSt I (46 + 5 * ((nx + 29 - j) % 30)) n
def cIm (I : Im) (im : Nat → Option (NS × Int)) : Prop := ∀ i : Nat, i < 2 → (im i = none → I 199 i = 0) ∧ ∀ q, im i = some q → I 199 i = 1 ∧ cSt I (200 + 5 * i) q.1 ∧ I 198 i = q.2
def cHd (I : Im) (hd : List (Int × Int × Int)) : Prop := I 210 4 = hd.length ∧ Seg (I 211) 0 (hd.map (·.1)) ∧ Seg (I 212) 0 (hd.map (·.2.1)) ∧ Seg (I 213) 0 (hd.map (·.2.2))
def cBk (I : Im) (bk : List (Int × Int)) : Prop := I 227 2 = bk.length ∧ Seg (I 228) 0 (bk.map (·.1)) ∧ Seg (I 229) 0 (bk.map (·.2))
def Rc (S : St) (I : Im) : Prop := cTx I (sTx S) ∧ I 3 5 = sFl S ∧ I 2 10 = sDk S ∧ cWl I 23 (sWl S) ∧ cSt I 39 (sNw S) ∧ cPa I (sPa S) ∧ cIm I (sIm S) ∧ I 2 11 = sSd S ∧ cHd I (sHd S) ∧ cBk I (sBk S)
theorem cTx.kept {I I' : Im} {x : List Int} (h : cTx I x) (e0 : I' 3 3 = I 3 3) (e : I' 4 = I 4) : cTx I' x := ⟨e0.trans h.1, by rw [e]; exact h.2⟩
theorem cWl.kept {I I' : Im} {a : Nat} {x : List (List Int)} (h : cWl I a x) (hl : x.length ≤ 6) (e0 : I' a 3 = I a 3) (e1 : ∀ b : Nat, a + 4 ≤ b → b < a + 16 → I' b = I b) : cWl I' a x := ⟨e0.trans h.1, fun w y hy => by
  have hw := (List.getElem?_eq_some_iff.mp hy).1
  exact (h.2 w y hy).kept (by rw [e1 _ (by omega) (by omega)]) (e1 _ (by omega) (by omega))⟩
theorem cPa.kept {I I' : Im} {x : List NS} (h : cPa I x) (e : ∀ b : Nat, 44 ≤ b → b < 196 → I' b = I b) : cPa I' x := by
  obtain ⟨nx, h0, h1, h2, h3⟩ := h
  refine ⟨nx, h0, by rw [e 44 (by omega) (by omega)]; exact h1, by rw [e 44 (by omega) (by omega)]; exact h2, fun j n hj => (h3 j n hj).kept (fun b b0 b1 => e b (by omega) ?_)⟩
  have : (nx + 29 - j) % 30 < 30 := Nat.mod_lt _ (by omega)
  omega
theorem cIm.kept {I I' : Im} {x : Nat → Option (NS × Int)} (h : cIm I x) (e : ∀ b : Nat, 198 ≤ b → b < 210 → I' b = I b) : cIm I' x := by
  intro i hi
  rw [e 199 (by omega) (by omega), e 198 (by omega) (by omega)]
  exact ⟨(h i hi).1, fun q hq => ⟨((h i hi).2 q hq).1, (((h i hi).2 q hq).2.1).kept (fun b b0 b1 => e b (by omega) (by omega)), ((h i hi).2 q hq).2.2⟩⟩
theorem cHd.kept {I I' : Im} {x : List (Int × Int × Int)} (h : cHd I x) (e0 : I' 210 4 = I 210 4) (e1 : I' 211 = I 211) (e2 : I' 212 = I 212) (e3 : I' 213 = I 213) : cHd I' x := by unfold cHd; rw [e0, e1, e2, e3]; exact h
theorem cBk.kept {I I' : Im} {x : List (Int × Int)} (h : cBk I x) (e0 : I' 227 2 = I 227 2) (e1 : I' 228 = I 228) (e2 : I' 229 = I 229) : cBk I' x := by unfold cBk; rw [e0, e1, e2]; exact h
/-- scratch cells of the component -/
abbrev aCs : Nat → Int → Prop := fun a k => (a = 3 ∧ k = 4) ∨ (5 ≤ a ∧ a ≤ 22) ∨ a = 25 ∨ a = 26 ∨ (214 ≤ a ∧ a ≤ 226) ∨ (230 ≤ a ∧ a ≤ 362) ∨ 389 ≤ a
/-- its own cells -/
abbrev aC : Nat → Int → Prop := fun a _ => 2 ≤ a ∧ (a < 363 ∨ 389 ≤ a)
theorem Rc.kept {S : St} {I I' : Im} (h : Rc S I) (w : okWl (sWl S)) (e : Ex aCs I I') : Rc S I' := by
  obtain ⟨h1, h2, h3, h4, h5, h6, h7, h8, h9, h10⟩ := h
  have r : ∀ a : Nat, a = 4 ∨ (27 ≤ a ∧ a ≤ 209) ∨ (211 ≤ a ∧ a ≤ 213) ∨ (228 ≤ a ∧ a ≤ 229) → I' a = I a := fun a ha => e.row a (fun k => by omega)
  exact ⟨h1.kept (e _ _ (by omega)) (r _ (by omega)), (e _ _ (by omega)).trans h2, (e _ _ (by omega)).trans h3, h4.kept w.1 (e _ _ (by omega)) (fun b b0 b1 => r b (by omega)), h5.kept (fun b b0 b1 => r b (by omega)), h6.kept (fun b b0 b1 => r b (by omega)), h7.kept (fun b b0 b1 => r b (by omega)), (e _ _ (by omega)).trans h8, h9.kept (e _ _ (by omega)) (r _ (by omega)) (r _ (by omega)) (r _ (by omega)), h10.kept (e _ _ (by omega)) (r _ (by omega)) (r _ (by omega))⟩
theorem Rc.now {S : St} {I I' : Im} {n : NS} (h : Rc S I) (w : okWl (sWl S)) (e : Ex (fun a k => (39 ≤ a ∧ a < 44) ∨ aCs a k) I I') (hn : cSt I' 39 n) : Rc (uNw S n) I' := by
  obtain ⟨h1, h2, h3, h4, h5, h6, h7, h8, h9, h10⟩ := h
  have r : ∀ a : Nat, a = 4 ∨ (27 ≤ a ∧ a ≤ 38) ∨ (44 ≤ a ∧ a ≤ 209) ∨ (211 ≤ a ∧ a ≤ 213) ∨ (228 ≤ a ∧ a ≤ 229) → I' a = I a := fun a ha => e.row a (fun k => by omega)
  exact ⟨h1.kept (e _ _ (by omega)) (r _ (by omega)), (e _ _ (by omega)).trans h2, (e _ _ (by omega)).trans h3, h4.kept w.1 (e _ _ (by omega)) (fun b b0 b1 => r b (by omega)), hn, h6.kept (fun b b0 b1 => r b (by omega)), h7.kept (fun b b0 b1 => r b (by omega)), (e _ _ (by omega)).trans h8, h9.kept (e _ _ (by omega)) (r _ (by omega)) (r _ (by omega)) (r _ (by omega)), h10.kept (e _ _ (by omega)) (r _ (by omega)) (r _ (by omega))⟩
theorem Rc.past {S : St} {I I' : Im} {p : List NS} (h : Rc S I) (w : okWl (sWl S)) (e : Ex (fun a k => (44 ≤ a ∧ a < 196) ∨ aCs a k) I I') (hp : cPa I' p) : Rc (uNP S (sNw S) p) I' := by
  obtain ⟨h1, h2, h3, h4, h5, h6, h7, h8, h9, h10⟩ := h
  have r : ∀ a : Nat, a = 4 ∨ (27 ≤ a ∧ a ≤ 43) ∨ (196 ≤ a ∧ a ≤ 209) ∨ (211 ≤ a ∧ a ≤ 213) ∨ (228 ≤ a ∧ a ≤ 229) → I' a = I a := fun a ha => e.row a (fun k => by omega)
  exact ⟨h1.kept (e _ _ (by omega)) (r _ (by omega)), (e _ _ (by omega)).trans h2, (e _ _ (by omega)).trans h3, h4.kept w.1 (e _ _ (by omega)) (fun b b0 b1 => r b (by omega)), h5.kept (fun b b0 b1 => r b (by omega)), hp, h7.kept (fun b b0 b1 => r b (by omega)), (e _ _ (by omega)).trans h8, h9.kept (e _ _ (by omega)) (r _ (by omega)) (r _ (by omega)) (r _ (by omega)), h10.kept (e _ _ (by omega)) (r _ (by omega)) (r _ (by omega))⟩
abbrev aPs : Nat → Int → Prop := fun a _ => 44 ≤ a ∧ a < 196
theorem c_remember {S : St} {I : Im} {r : Rs} {Q : Hp → Prop} (c : Cs r) (hR : Rc S I) (w : WF S) (k : ∀ I', Rc (uNP S (sNw S) (push S)) I' → Ex aPs I I' → Q (I', r)) : C_X6_remember 44 39 (I, r) Q := by
  have okw := w.2.2.2.1
  have okn := w.2.2.2.2.1
  have okp := w.2.2.2.2.2.1.1
  obtain ⟨p1, ⟨p2, p3, p4⟩, p5⟩ := c.2.2.2.2.2.1
  obtain ⟨nx, n0, n1, n2, n3⟩ := hR.2.2.2.2.2.1
  obtain ⟨q1, q2⟩ := p5 nx n0
  apply G_X6_remember
  unfold V_X6_remember
  simp only [hK_p, hL_p, hI_p, hR_p, wI_p, cpI_p, hN_p, forall_eq, true_and, and_true, ne_eq, not_true_eq_false, not_false_eq_true, true_implies, false_implies, imp_false, implies_true, if_true, if_false, reduceCtorEq, p1, p2, p3, p4, n1, q1, q2.1]
  refine ⟨by omega, c_copySt q2 c.2.2.2.2.1 (by omega) hR.2.2.2.2.1 okn (fun J hJ xJ => ?_)⟩
  have j1 : J 44 1 = nx := by rw [xJ _ _ (by omega), n1]
  have j2 : ∀ v, upI J 44 1 v 44 2 = (sPa S).length := fun v => by rw [upI_ne (by omega), xJ _ _ (by omega), n2]
  simp only [hK_p, hL_p, hI_p, hR_p, wI_p, cpI_p, hN_p, forall_eq, true_and, and_true, ne_eq, not_true_eq_false, not_false_eq_true, true_implies, false_implies, imp_false, implies_true, if_true, if_false, reduceCtorEq, p1, j1, j2]
  refine ⟨by omega, by omega, by omega, ?_⟩
  generalize hF : upI (upI J 44 1 (((nx : Int) + 1) % 30)) 44 2 (min 30 (((sPa S).length : Int) + 1)) = F
  have fo : ∀ x q, ¬ (x = 44 ∧ (q = 1 ∨ q = 2)) → F x q = J x q := fun x q hq => by rw [← hF, upI_ne (by omega), upI_ne (by omega)]
  have exF : Ex aPs I F := fun x q hq => by rw [fo x q (by omega), xJ x q (by omega)]
  refine k F (hR.past okw (exF.mono (fun a q z => by omega)) ⟨(nx + 1) % 30, by omega, ?_, ?_, fun j n hj => ?_⟩) exF
  · rw [← hF, upI_ne (by omega), upI_self]; omega
  · rw [← hF, upI_self]; unfold push; rw [List.length_take, List.length_cons]; omega
  · unfold push at hj
    rw [List.getElem?_take] at hj
    split at hj
    · rename_i h30
      cases j with
      | zero =>
        simp at hj
        subst hj
        rw [show ((nx + 1) % 30 + 29 - 0) % 30 = nx by omega]
        exact hJ.kept (fun x x0 x1 => funext fun q => fo x q (by omega))
      | succ j =>
        have hj' : (sPa S)[j]? = some n := by simpa using hj
        rw [show ((nx + 1) % 30 + 29 - (j + 1)) % 30 = (nx + 29 - j) % 30 by omega]
        refine (n3 j n hj').kept (fun x x0 x1 => funext fun q => ?_)
        rw [fo x q (by omega), xJ x q (by omega)]
    · cases hj
theorem c_isKind {v : Int} {h : Hp} {Q : Int → Hp → Prop} (k1 : 0 ≤ v ∧ v ≤ 5 → Q 1 h) (k0 : ¬ (0 ≤ v ∧ v ≤ 5) → Q 0 h) : C_X11_isKind v h Q := by
  apply G_X11_isKind
  unfold V_X11_isKind
  exact ⟨fun c => k0 (by omega), fun c => ⟨fun c2 => k0 (by omega), fun c2 => k1 (by omega)⟩⟩
theorem c_isFigure {v : Int} {h : Hp} {Q : Int → Hp → Prop} (k1 : 0 ≤ v ∧ v ≤ 9 → Q 1 h) (k0 : ¬ (0 ≤ v ∧ v ≤ 9) → Q 0 h) : C_X11_isFigure v h Q := by
  apply G_X11_isFigure
  unfold V_X11_isFigure
  exact ⟨fun c => k0 (by omega), fun c => ⟨fun c2 => k0 (by omega), fun c2 => k1 (by omega)⟩⟩
theorem c_isPlace {v : Int} {h : Hp} {Q : Int → Hp → Prop} (k1 : 0 ≤ v ∧ v ≤ 59 → Q 1 h) (k0 : ¬ (0 ≤ v ∧ v ≤ 59) → Q 0 h) : C_X11_isPlace v h Q := by
  apply G_X11_isPlace
  unfold V_X11_isPlace
  exact ⟨fun c => k0 (by omega), fun c => ⟨fun c2 => k0 (by omega), fun c2 => k1 (by omega)⟩⟩
theorem c_isTried {a b : Int} {h : Hp} {Q : Int → Hp → Prop} (k1 : (0 ≤ a ∧ a ≤ 5) ∧ 0 ≤ b ∧ b ≤ 8 → Q 1 h) (k0 : ¬ ((0 ≤ a ∧ a ≤ 5) ∧ 0 ≤ b ∧ b ≤ 8) → Q 0 h) : C_X11_isTried a b h Q := by
  apply G_X11_isTried
  unfold V_X11_isTried
  refine c_isKind (fun z => ⟨fun z2 => absurd z2 (by decide), fun _ => ⟨fun c => k0 (by omega), fun c => ⟨fun c2 => k0 (by omega), fun c2 => k1 (by omega)⟩⟩⟩) (fun z => ⟨fun _ => k0 (by omega), fun z2 => absurd rfl z2⟩)
theorem c_wget {I : Im} {r : Rs} {a : Nat} {x : Int} {wl : List (List Int)} {Q : Nat → Hp → Prop} (s : sWL r a) (h : cWl I a wl) (ok : okWl wl) (k1 : 0 ≤ x ∧ x ≤ wl.length - 1 → ∀ b d, b = a + 4 + 2 * x.toNat → d = a + 5 + 2 * x.toNat → Fs r b d 8 → fg I b d (wl.getD x.toNat []) → Q b (I, r)) (k0 : ¬ (0 ≤ x ∧ x ≤ wl.length - 1) → Q 0 (I, r)) : C_X10_get a x (I, r) Q := by
  obtain ⟨s1, ⟨s2, s3, s4⟩, _, _, s5⟩ := s
  have hl := ok.1
  apply G_X10_get
  unfold V_X10_get
  simp only [hK_p, hL_p, hI_p, hR_p, wI_p, cpI_p, hN_p, forall_eq, true_and, and_true, ne_eq, not_true_eq_false, not_false_eq_true, true_implies, false_implies, imp_false, implies_true, if_true, if_false, reduceCtorEq, s1, s2, s3, s4, h.1]
  refine ⟨fun c => k0 (by omega), fun c => ⟨fun c2 => k0 (by omega), fun c2 => ⟨by omega, ?_⟩⟩⟩
  obtain ⟨t1, t2⟩ := s5 x.toNat (by omega)
  rw [Int.toNat_of_nonneg (by omega)] at t1
  rw [t1]
  exact k1 (by omega) _ _ rfl rfl t2 (h.2 _ _ (wl_at (by omega)))
