/-! MODEL, part 18: the desk's text is read -/
abbrev pzA (tx : List Int) (m : Nat) (cur row : List Int) (ws : List (List Int)) (u : Nat) : Int × Int × List Int × List (List Int) := pz m cur row ws u (tx.drop u)
theorem pz_sp {tx : List Int} {u : Nat} (hu : u < tx.length) (h : tx[u] = 32) (m : Nat) (cur row : List Int) (ws : List (List Int)) : pzA tx m cur row ws u = pzA tx m cur row ws (u + 1) := by
  show pz m cur row ws u (tx.drop u) = pz m cur row ws ((u + 1 : Nat) : Int) (tx.drop (u + 1))
  rw [drop_cons hu]
  show (if tx[u] = 32 then pz m cur row ws ((u : Int) + 1) (tx.drop (u + 1)) else _) = _
  rw [if_pos h]
  congr 1
theorem pz_end (tx : List Int) (m : Nat) (cur row : List Int) (ws : List (List Int)) : pzA tx m cur row ws tx.length = if m = 0 then (0, -1, row, ws) else (1, (tx.length : Int), row, ws) := by
  show pz m cur row ws (tx.length : Int) (tx.drop tx.length) = _
  rw [List.drop_length]
  rfl
theorem pz_at {tx : List Int} {u : Nat} (hu : u < tx.length) (h : tx[u] ≠ 32) (m : Nat) (cur row : List Int) (ws : List (List Int)) : pzA tx m cur row ws u =
    if m = 0 then (if tx[u] = 114 then (if row = [] then pzA tx 1 [] row ws (u + 1) else (3, (u : Int), row, ws)) else if tx[u] = 119 then (if row = [] then (1, (u : Int), row, ws) else if ws.length = 6 then (3, (u : Int), row, ws) else pzA tx 2 [] row ws (u + 1)) else (1, (u : Int), row, ws))
    else if 48 ≤ tx[u] ∧ tx[u] ≤ 57 then (if cur.length = (if m = 1 then 60 else 8) then (2, (u : Int), row, ws) else pzA tx m (cur ++ [tx[u] - 48]) row ws (u + 1))
    else if tx[u] = 59 ∧ cur ≠ [] then (if m = 1 then pzA tx 0 [] cur ws (u + 1) else pzA tx 0 [] row (ws ++ [cur]) (u + 1))
    else (1, (u : Int), row, ws) := by
  show pz m cur row ws u (tx.drop u) = _
  rw [drop_cons hu]
  show (if tx[u] = 32 then _ else _) = _
  rw [if_neg h]
  rfl
/-- the text, and how far it is read -/
def tAt (I : Im) (tx : List Int) (u : Nat) : Prop := I 363 0 = tx.length ∧ Seg (I 364) 0 tx ∧ I 363 2 = u ∧ u ≤ tx.length ∧ tx.length ≤ 240 ∧ ∀ v ∈ tx, 0 ≤ v ∧ v ≤ 255
theorem tAt.kept {I I' : Im} {tx : List Int} {u u' : Nat} (h : tAt I tx u) (e0 : I' 363 0 = I 363 0) (e1 : I' 364 = I 364) (e2 : I' 363 2 = u') (hu : u' ≤ tx.length) : tAt I' tx u' := ⟨e0.trans h.1, by rw [e1]; exact h.2.1, e2, hu, h.2.2.2.2⟩
abbrev a2 : Nat → Int → Prop := fun a k => a = 363 ∧ k = 2
theorem m_peek {I : Im} {r : Rs} {tx : List Int} {u : Nat} {Q : Int → Hp → Prop} (mm : Mst r) (ht : tAt I tx u)
    (k1 : ∀ I', tAt I' tx tx.length → (∀ m cur row ws, pzA tx m cur row ws u = pzA tx m cur row ws tx.length) → Ex a2 I I' → Q (-1) (I', r))
    (k2 : ∀ I' u', tAt I' tx u' → u ≤ u' → (hu : u' < tx.length) → tx[u'] ≠ 32 → (0 ≤ tx[u'] ∧ tx[u'] ≤ 255) → (∀ m cur row ws, pzA tx m cur row ws u = pzA tx m cur row ws u') → Ex a2 I I' → Q tx[u'] (I', r)) : C_X12_peek 363 (I, r) Q := by
  have m' := mm
  unfold Mst at m'
  apply G_X12_peek
  unfold V_X12_peek
  refine Lp_X12_peek_0_ind (fun h => ∃ (v : Nat) (J : Im), h = (J, r) ∧ u ≤ v ∧ tAt J tx v ∧ Ex a2 I J ∧ ∀ m cur row ws, pzA tx m cur row ws u = pzA tx m cur row ws v) (fun h => tx.length - (hI h 363 2).toNat) ?_ _ ⟨u, I, rfl, Nat.le_refl _, ht, Ex.refl I, fun _ _ _ _ => rfl⟩
  intro P h hI ih
  obtain ⟨v, J, rfl, v0, v1, v2, v3⟩ := hI
  have hv := v1
  obtain ⟨t0, t1, t2, t3, t4, t5⟩ := hv
  unfold BLp_X12_peek_0 J_X12_peek_38
  simp only [hK_p, hL_p, hI_p, hR_p, wI_p, cpI_p, hN_p, forall_eq, true_and, and_true, ne_eq, not_true_eq_false, not_false_eq_true, true_implies, false_implies, imp_false, implies_true, if_true, if_false, reduceCtorEq, m', t0, t2]
  have stop : (v = tx.length ∨ ∃ hu : v < tx.length, tx[v] ≠ 32) → (((tx.length : Int) ≤ v → Q (-1) (J, r)) ∧ (¬ (tx.length : Int) ≤ v → (0 ≤ (v : Int) ∧ (v : Int) < 240) ∧ Q (J 364 v) (J, r))) := by
    intro hs
    refine ⟨fun c => ?_, fun c => ?_⟩
    · have : v = tx.length := by omega
      subst this
      exact k1 J v1 v3 v2
    · rcases hs with hs | ⟨hu, hne⟩
      · omega
      · have e : J 364 v = tx[v] := by have := t1.get hu; rw [Int.zero_add] at this; exact this
        rw [e]
        exact ⟨by omega, k2 J v v1 v0 hu hne (t5 _ (List.getElem_mem hu)) v3 v2⟩
  refine ⟨fun c => stop (Or.inl (by omega)), fun c => ?_⟩
  have hu : v < tx.length := by omega
  have e : J 364 v = tx[v] := by have := t1.get hu; rw [Int.zero_add] at this; exact this
  refine ⟨by omega, fun c2 => stop (Or.inr ⟨hu, by rw [← e]; exact c2⟩), fun c2 => ⟨by omega, ?_⟩⟩
  refine ih _ ⟨v + 1, _, rfl, by omega, v1.kept (upI_ne (by omega)) (funext fun q => upI_ne (by omega)) (by rw [upI_self]; omega) (by omega), fun a q hq => by rw [upI_ne (by omega), v2 a q hq], fun m cur row ws => by rw [v3, pz_sp hu (by rw [← e]; exact c2)]⟩ ?_
  simp only [hI_p, upI_self, t2]
  omega
theorem m_peek_at {I : Im} {r : Rs} {tx : List Int} {u : Nat} {Q : Int → Hp → Prop} (mm : Mst r) (ht : tAt I tx u) (hu : u < tx.length) (hne : tx[u] ≠ 32) (k : Q tx[u] (I, r)) : C_X12_peek 363 (I, r) Q := by
  have m' := mm
  unfold Mst at m'
  have hv := ht
  obtain ⟨t0, t1, t2, t3, t4, t5⟩ := hv
  have e : I 364 u = tx[u] := by have := t1.get hu; rw [Int.zero_add] at this; exact this
  apply G_X12_peek
  unfold V_X12_peek
  refine Lp_X12_peek_0_ind (fun h => h = (I, r)) (fun h => 0) ?_ _ rfl
  intro P h hI ih
  subst hI
  unfold BLp_X12_peek_0 J_X12_peek_38
  simp only [hK_p, hL_p, hI_p, hR_p, wI_p, cpI_p, hN_p, forall_eq, true_and, and_true, ne_eq, not_true_eq_false, not_false_eq_true, true_implies, false_implies, imp_false, implies_true, if_true, if_false, reduceCtorEq, m', t0, t2, e]
  exact ⟨fun c => absurd c (by omega), fun c => ⟨by omega, fun c2 => ⟨fun c3 => absurd c3 c, fun c3 => ⟨by omega, k⟩⟩, fun c2 => absurd c2 hne⟩⟩
theorem m_peek_end {I : Im} {r : Rs} {tx : List Int} {Q : Int → Hp → Prop} (mm : Mst r) (ht : tAt I tx tx.length) (k : Q (-1) (I, r)) : C_X12_peek 363 (I, r) Q := by
  have m' := mm
  unfold Mst at m'
  have hv := ht
  obtain ⟨t0, t1, t2, t3, t4, t5⟩ := hv
  apply G_X12_peek
  unfold V_X12_peek
  refine Lp_X12_peek_0_ind (fun h => h = (I, r)) (fun h => 0) ?_ _ rfl
  intro P h hI ih
  subst hI
  unfold BLp_X12_peek_0 J_X12_peek_38
  simp only [hK_p, hL_p, hI_p, hR_p, wI_p, cpI_p, hN_p, forall_eq, true_and, and_true, ne_eq, not_true_eq_false, not_false_eq_true, true_implies, false_implies, imp_false, implies_true, if_true, if_false, reduceCtorEq, m', t0, t2]
  exact ⟨fun c => ⟨fun _ => k, fun c2 => absurd c c2⟩, fun c => absurd (Int.le_refl _) c⟩
theorem m_isBad {I : Im} {r : Rs} {n : Int} {Q : Int → Hp → Prop} (m : Mst r) (k : Q 0 (upI I 363 4 n, r)) : C_X12_isBad 363 n (I, r) Q := by
  apply G_X12_isBad
  unfold V_X12_isBad
  simp only [hK_p, hL_p, hI_p, hR_p, wI_p, cpI_p, hN_p, forall_eq, true_and, and_true, ne_eq, not_true_eq_false, not_false_eq_true, true_implies, false_implies, imp_false, implies_true, if_true, if_false, reduceCtorEq, m.1]
  exact k
/-- what is read ends bad -/
def bad (I : Im) (res : Int × Int × List Int × List (List Int)) : Prop := ¬ res.1 = 0 ∧ I 363 4 = res.1 ∧ I 363 2 = res.2.1
abbrev aFg (arr : Nat) (o : Int) : Nat → Int → Prop := fun a k => (a = arr ∧ o ≤ k) ∨ (a = 363 ∧ (k = 2 ∨ k = 4 ∨ k = 31))
theorem m_isFigures {I : Im} {r : Rs} {tx row : List Int} {ws : List (List Int)} {u m arr : Nat} {o lim : Int} {Q : Int → Hp → Prop} (mm : Mst r) (ht : tAt I tx u) (hm : m = 1 ∨ m = 2) (hlim : lim = ((if m = 1 then 60 else 8 : Nat) : Int)) (ho : 0 ≤ o) (ka : rK r arr = 12) (hL : o + lim ≤ rL r arr) (hL2 : rL r arr ≤ 1000) (harr : arr = 365 ∨ arr = 367)
    (k0 : ∀ I', bad I' (pzA tx m [] row ws u) → Ex (aFg arr o) I I' → Q 0 (I', r))
    (k1 : ∀ I' u' cur, tAt I' tx u' → u < u' → I' 363 31 = cur.length → Seg (I' arr) o cur → 1 ≤ cur.length → (cur.length : Int) ≤ lim → figs cur → pzA tx m [] row ws u = (if m = 1 then pzA tx 0 [] cur ws u' else pzA tx 0 [] row (ws ++ [cur]) u') → Ex (aFg arr o) I I' → Q 1 (I', r)) : C_X12_isFigures 363 arr o lim (I, r) Q := by
  have m' := mm
  unfold Mst at m'
  have hl0 : 0 ≤ lim ∧ lim ≤ 60 := by rw [hlim]; split <;> omega
  have m0 : ¬ m = 0 := by omega
  have htx : tx.length ≤ 240 := ht.2.2.2.2.1
  apply G_X12_isFigures
  unfold V_X12_isFigures
  refine Lp_X12_isFigures_3_ind (fun x4 h => ∃ (v : Nat) (cur : List Int) (J : Im), x4 = cur.length ∧ h = (J, r) ∧ u ≤ v ∧ tAt J tx v ∧ Seg (J arr) o cur ∧ (cur.length : Int) ≤ lim ∧ figs cur ∧ pzA tx m [] row ws u = pzA tx m cur row ws v ∧ Ex (aFg arr o) I J) (fun x4 h => 60 - x4.toNat) ?_ _ _ ⟨u, [], I, rfl, rfl, Nat.le_refl _, ht, Seg.nil _ _, by simp; omega, figs.nil, rfl, Ex.refl I⟩
  intro P x4 h hI ih
  obtain ⟨v, cur, J, rfl, rfl, v0, v1, v2, v3, v4, v5, v6⟩ := hI
  have badj : ∀ (n : Int) (K : Im), Ex (aFg arr o) I K → n ≠ 0 → (pzA tx m [] row ws u).1 = n → K 363 2 = (pzA tx m [] row ws u).2.1 → C_X12_isBad 363 n (K, r) (fun r2 h1 => ((r2 = 0 ∨ r2 = 1) ∧ Q r2 h1)) := by
    intro n K xK hn e1 e2
    refine m_isBad mm ⟨Or.inl rfl, k0 _ ⟨by rw [e1]; exact hn, by rw [upI_self, e1], by rw [upI_ne (by omega), e2]⟩ (fun a q hq => by rw [upI_ne (by omega), xK a q hq])⟩
  have j72 : ∀ K : Im, Ex (aFg arr o) I K → (pzA tx m [] row ws u).1 = 1 → K 363 2 = (pzA tx m [] row ws u).2.1 → J_X12_isFigures_72 363 (K, r) Q := by
    intro K xK e1 e2
    unfold J_X12_isFigures_72
    exact ⟨mm.1, badj 1 K xK (by omega) e1 e2⟩
  unfold BLp_X12_isFigures_3
  refine ⟨mm.1, m_peek mm v1 (fun K tK pK xK => ?_) (fun K v' tK hv' hvl hne hrg pK xK => ?_)⟩
  · -- the text ends
    have xK' : Ex (aFg arr o) I K := v6.trans xK (fun _ _ z => z) (fun a q z => by omega)
    have e := pK m cur row ws
    rw [pz_end, if_neg m0] at e
    rw [e] at v5
    have jj : ∀ Z : Im, Ex a2 K Z → tAt Z tx tx.length → J_X12_isFigures_72 363 (Z, r) Q := fun Z xZ tZ => j72 Z (xK'.trans xZ (fun _ _ z => z) (fun a q z => by omega)) (by rw [v5]) (by rw [tZ.2.2.1, v5])
    refine m_is (fun z => absurd z (by omega)) (fun _ => ⟨fun _ => ⟨fun _ => jj K (Ex.refl K) tK, fun _ => ⟨mm.1, m_peek mm tK (fun Z tZ pZ xZ => ⟨fun z => absurd z (by decide), fun _ => jj Z xZ tZ⟩) (fun Z v' _ h1 h2 _ _ _ _ => absurd h2 (by omega))⟩⟩, fun z => absurd rfl z⟩)
  · have xK' : Ex (aFg arr o) I K := v6.trans xK (fun _ _ z => z) (fun a q z => by omega)
    have hK2 : K arr = J arr := xK.row arr (fun z => by omega)
    have e := pK m cur row ws
    rw [pz_at hvl hne, if_neg m0] at e
    rw [e] at v5
    refine m_is (fun hd => ⟨fun z => absurd z (by decide), fun _ => ?_⟩) (fun hd => ⟨fun _ => ?_, fun z => absurd rfl z⟩)
    · rw [if_pos hd] at v5
      refine ⟨fun c => ⟨⟨by omega, by omega⟩, mm.1, ?_⟩, fun c => ⟨mm.1, ?_⟩⟩
      · -- a figure more
        rw [if_neg (by intro z; apply c; rw [hlim, z])] at v5
        refine m_peek_at mm tK hvl hne ?_
        have z2 : K 363 2 = v' := tK.2.2.1
        have zu : upI K arr (o + (cur.length : Int)) (tx[v'] - 48) 363 2 = v' := by rw [upI_ne (by omega), z2]
        simp only [hK_p, hL_p, hI_p, hR_p, wI_p, cpI_p, hN_p, forall_eq, true_and, and_true, ne_eq, not_true_eq_false, not_false_eq_true, true_implies, false_implies, imp_false, implies_true, if_true, if_false, reduceCtorEq, mm.1, ka, zu]
        refine ⟨⟨by omega, by omega⟩, ⟨by omega, by omega⟩, ⟨by omega, by omega⟩, ⟨by omega, by omega⟩, ih _ _ ⟨v' + 1, cur ++ [tx[v'] - 48], _, by simp, rfl, by omega, ?_, ?_, by simp; omega, v4.app (figs.one (by omega) (by omega)), v5, fun a q hq => ?_⟩ (by omega)⟩
        · exact tK.kept (by rw [upI_ne (by omega), upI_ne (by omega)]) (funext fun q => by rw [upI_ne (by omega), upI_ne (by omega)]) (by rw [upI_self]; omega) (by omega)
        · refine v2.snoc (fun q q0 q1 => ?_) ?_
          · rw [upI_ne (by omega), upI_ne (by omega), hK2]
          · rw [upI_ne (by omega), upI_self]
        · rw [upI_ne (by omega), upI_ne (by omega), xK' a q hq]
      · rw [if_pos (by have := hlim; omega)] at v5
        exact badj 2 K xK' (by omega) (by rw [v5]) (by rw [tK.2.2.1, v5])
    · rw [if_neg hd] at v5
      refine ⟨fun c => ?_, fun c => ⟨mm.1, ?_⟩⟩
      · have hc : cur = [] := List.length_eq_zero_iff.mp (by omega)
        rw [if_neg (fun z => z.2 hc)] at v5
        exact j72 K xK' (by rw [v5]) (by rw [tK.2.2.1, v5])
      · have hc : cur ≠ [] := fun z => c (by rw [z]; rfl)
        refine m_peek_at mm tK hvl hne ?_
        refine ⟨fun c2 => ?_, fun c2 => ?_⟩
        · rw [if_pos ⟨c2, hc⟩] at v5
          have z2 : K 363 2 = v' := tK.2.2.1
          simp only [hK_p, hL_p, hI_p, hR_p, wI_p, cpI_p, hN_p, forall_eq, true_and, and_true, ne_eq, not_true_eq_false, not_false_eq_true, true_implies, false_implies, imp_false, implies_true, if_true, if_false, reduceCtorEq, mm.1, z2]
          have cl : 1 ≤ cur.length := by omega
          refine ⟨⟨by omega, by omega⟩, k1 _ (v' + 1) cur ?_ (by omega) (by rw [upI_self]) (v2.congr (fun q q0 q1 => ?_)) cl v3 v4 v5 (fun a q hq => ?_)⟩
          · exact tK.kept (by rw [upI_ne (by omega), upI_ne (by omega)]) (funext fun q => by rw [upI_ne (by omega), upI_ne (by omega)]) (by rw [upI_ne (by omega), upI_self]; omega) (by omega)
          · rw [upI_ne (by omega), upI_ne (by omega), hK2]
          · rw [upI_ne (by omega), upI_ne (by omega), xK' a q hq]
        · rw [if_neg (fun z => c2 z.1)] at v5
          exact j72 K xK' (by rw [v5]) (by rw [tK.2.2.1, v5])
/-- what is read of the text so far -/
def rd (I : Im) (row : List Int) (ws : List (List Int)) : Prop := (I 363 5 = row.length ∧ Seg (I 365) 0 row ∧ row.length ≤ 60) ∧ (I 363 6 = ws.length ∧ ws.length ≤ 6 ∧ ∀ (w : Nat) (x : List Int), ws[w]? = some x → (I 366 w = x.length ∧ Seg (I 367) (8 * w) x) ∧ x.length ≤ 8)
abbrev aPz : Nat → Int → Prop := fun a k => (365 ≤ a ∧ a ≤ 367) ∨ (a = 363 ∧ (k = 2 ∨ k = 4 ∨ k = 5 ∨ k = 6 ∨ k = 31))
theorem m_isClause {I : Im} {r : Rs} {tx row : List Int} {ws : List (List Int)} {u : Nat} {Q : Int → Hp → Prop} (mm : Mst r) (ht : tAt I tx u) (hu : u < tx.length) (hne : tx[u] ≠ 32) (hr : rd I row ws)
    (k0 : ∀ I', bad I' (pzA tx 0 [] row ws u) → Ex aPz I I' → Q 0 (I', r))
    (k1 : ∀ I' u' row' ws', tAt I' tx u' → u < u' → rd I' row' ws' → pzA tx 0 [] row ws u = pzA tx 0 [] row' ws' u' → Ex aPz I I' → Q 1 (I', r)) : C_X12_isClause 363 (I, r) Q := by
  have m' := mm
  unfold Mst at m'
  obtain ⟨⟨r1, r2, r3⟩, r4, r5, r6⟩ := hr
  have z2 : I 363 2 = u := ht.2.2.1
  have htx : tx.length ≤ 240 := ht.2.2.2.2.1
  have e := pz_at hu hne 0 [] row ws
  rw [if_pos rfl] at e
  have rn : row = [] ↔ row.length = 0 := List.length_eq_zero_iff.symm
  have badj : ∀ n : Int, n ≠ 0 → pzA tx 0 [] row ws u = (n, (u : Int), row, ws) → hK (I, r) 363 = 11 ∧ C_X12_isBad 363 n (I, r) (fun r2 h1 => ((r2 = 0 ∨ r2 = 1) ∧ Q r2 h1)) := by
    intro n hn e1
    refine ⟨mm.1, m_isBad mm ⟨Or.inl rfl, k0 _ ?_ (fun a q hq => by rw [upI_ne (by omega)])⟩⟩
    rw [e1]
    exact ⟨hn, by rw [upI_self], by rw [upI_ne (by omega), z2]⟩
  have tu : tAt (upI I 363 2 ((u : Int) + 1)) tx (u + 1) := ht.kept (by rw [upI_ne (by omega)]) (funext fun q => by rw [upI_ne (by omega)]) (by rw [upI_self]; omega) (by omega)
  have f1 : upI I 363 2 ((u : Int) + 1) 363 6 = ws.length := by rw [upI_ne (by omega), r4]
  apply G_X12_isClause
  unfold V_X12_isClause
  refine ⟨mm.1, m_peek_at mm ht hu hne ?_⟩
  unfold J_X12_isClause_16 J_X12_isClause_27 J_X12_isClause_44 J_X12_isClause_73 J_X12_isClause_99 J_X12_isClause_114 J_X12_isClause_125 J_X12_isClause_67 J_X12_isClause_38
  refine ⟨fun c => ⟨fun z => absurd rfl z, fun _ => ⟨fun c2 => ?_, fun c2 => ⟨fun z => absurd rfl z, fun _ => ?_⟩⟩⟩, fun c => ⟨fun _ => ⟨fun _ => ⟨fun z => absurd z (by decide), fun _ => ?_⟩, fun z => absurd z (by decide)⟩, fun z => absurd z (by decide)⟩⟩
  · exact badj 1 (by decide) (by rw [e, if_neg c, if_neg c2])
  · -- a word
    rw [if_neg c, if_pos c2] at e
    refine ⟨mm.1, fun c3 => ⟨fun _ => ⟨mm.1, fun c4 => ?_, fun c4 => ?_⟩, fun z => absurd rfl z⟩, fun c3 => ?_⟩
    · rw [hI_p, r1] at c3
      rw [hI_p, r4] at c4
      rw [if_neg (fun z => c3 (by rw [z]; rfl)), if_neg (by omega)] at e
      simp only [hK_p, hL_p, hI_p, hR_p, wI_p, cpI_p, hN_p, forall_eq, true_and, and_true, ne_eq, not_true_eq_false, not_false_eq_true, true_implies, false_implies, imp_false, implies_true, if_true, if_false, reduceCtorEq, mm.1, m', z2, f1]
      refine ⟨⟨by omega, by omega⟩, ⟨by omega, by omega⟩, ?_⟩
      refine m_isFigures (m := 2) (row := row) (ws := ws) mm tu (Or.inr rfl) rfl (by omega) (by simp only [m']) (by simp only [m']; omega) (by simp only [m']; omega) (Or.inr rfl) (fun K bK xK => ?_) (fun K u' cur tK hu' k31 sK l1 l8 fc pK xK => ?_)
      · refine ⟨fun z => absurd rfl z, fun _ => k0 K (by rw [e]; exact bK) (fun a q hq => by rw [xK a q (by omega), upI_ne (by omega)])⟩
      · refine ⟨fun _ => ?_, fun z => absurd z (by decide)⟩
        have k6 : K 363 6 = ws.length := by rw [xK _ _ (by omega), f1]
        have k6' : upI K 366 (ws.length : Int) (cur.length : Int) 363 6 = ws.length := by rw [upI_ne (by omega), k6]
        simp only [hK_p, hL_p, hI_p, hR_p, wI_p, cpI_p, hN_p, forall_eq, true_and, and_true, ne_eq, not_true_eq_false, not_false_eq_true, true_implies, false_implies, imp_false, implies_true, if_true, if_false, reduceCtorEq, mm.1, m', k31, k6, k6']
        refine ⟨⟨by omega, by omega⟩, ⟨by omega, by omega⟩, k1 _ u' row (ws ++ [cur]) ?_ (by omega) ⟨⟨?_, ?_, r3⟩, ?_, by simp; omega, fun w x hx => ?_⟩ (by rw [e, pK]; rfl) (fun a q hq => by rw [upI_ne (by omega), upI_ne (by omega), xK a q (by omega), upI_ne (by omega)])⟩
        · exact tK.kept (by rw [upI_ne (by omega), upI_ne (by omega)]) (funext fun q => by rw [upI_ne (by omega), upI_ne (by omega)]) (by rw [upI_ne (by omega), upI_ne (by omega)]; exact tK.2.2.1) tK.2.2.2.1
        · rw [upI_ne (by omega), upI_ne (by omega), xK _ _ (by omega), upI_ne (by omega), r1]
        · refine r2.congr (fun q q0 q1 => ?_)
          rw [upI_ne (by omega), upI_ne (by omega), xK _ _ (by omega), upI_ne (by omega)]
        · rw [upI_self]; simp
        · rw [List.getElem?_append] at hx
          split at hx
          · rename_i hw
            obtain ⟨⟨g1, g2⟩, g3⟩ := r6 w x hx
            refine ⟨⟨?_, g2.congr (fun q q0 q1 => ?_)⟩, g3⟩
            · rw [upI_ne (by omega), upI_ne (by omega), xK _ _ (by omega), upI_ne (by omega), g1]
            · rw [upI_ne (by omega), upI_ne (by omega), xK _ _ (by omega), upI_ne (by omega)]
          · rename_i hw
            have hw2 := (List.getElem?_eq_some_iff.mp hx).1
            simp at hw2
            have hwe : w = ws.length := by omega
            subst hwe
            simp at hx
            subst hx
            refine ⟨⟨by rw [upI_ne (by omega), upI_self], sK.congr (fun q q0 q1 => ?_)⟩, by omega⟩
            rw [upI_ne (by omega), upI_ne (by omega)]
    · rw [hI_p, r1] at c3
      rw [hI_p, r4] at c4
      rw [if_neg (fun z => c3 (by rw [z]; rfl)), if_pos (by omega)] at e
      exact badj 3 (by decide) e
    · rw [hI_p, r1] at c3
      rw [if_pos (rn.mpr (by omega))] at e
      exact badj 1 (by decide) e
  · -- the row
    rw [if_pos c] at e
    refine ⟨mm.1, fun c3 => ?_, fun c3 => ?_⟩
    · rw [hI_p, r1] at c3
      have hrow : row = [] := rn.mpr (by omega)
      rw [if_pos hrow] at e
      simp only [hK_p, hL_p, hI_p, hR_p, wI_p, cpI_p, hN_p, forall_eq, true_and, and_true, ne_eq, not_true_eq_false, not_false_eq_true, true_implies, false_implies, imp_false, implies_true, if_true, if_false, reduceCtorEq, mm.1, m', z2, f1]
      refine ⟨⟨by omega, by omega⟩, fun z => absurd z (by decide), fun _ => ⟨fun z => absurd z (by decide), fun _ => ⟨fun z => absurd z (by decide), fun _ => ?_⟩⟩⟩
      refine m_isFigures (m := 1) (row := row) (ws := ws) mm tu (Or.inl rfl) rfl (by omega) (by simp only [m']) (by simp only [m']; omega) (by simp only [m']; omega) (Or.inl rfl) (fun K bK xK => ?_) (fun K u' cur tK hu' k31 sK l1 l8 fc pK xK => ?_)
      · refine ⟨fun z => absurd rfl z, fun _ => k0 K (by rw [e]; exact bK) (fun a q hq => by rw [xK a q (by omega), upI_ne (by omega)])⟩
      · refine ⟨fun _ => ⟨fun z => absurd z (by decide), fun _ => ?_⟩, fun z => absurd z (by decide)⟩
        simp only [hK_p, hL_p, hI_p, hR_p, wI_p, cpI_p, hN_p, forall_eq, true_and, and_true, ne_eq, not_true_eq_false, not_false_eq_true, true_implies, false_implies, imp_false, implies_true, if_true, if_false, reduceCtorEq, mm.1, m', k31]
        refine k1 _ u' cur ws ?_ (by omega) ⟨⟨?_, ?_, by omega⟩, ?_, r5, fun w x hx => ?_⟩ (by rw [e, pK]; rfl) (fun a q hq => by rw [upI_ne (by omega), xK a q (by omega), upI_ne (by omega)])
        · exact tK.kept (by rw [upI_ne (by omega)]) (funext fun q => by rw [upI_ne (by omega)]) (by rw [upI_ne (by omega)]; exact tK.2.2.1) tK.2.2.2.1
        · rw [upI_self]
        · refine sK.congr (fun q q0 q1 => ?_)
          rw [upI_ne (by omega)]
        · rw [upI_ne (by omega), xK _ _ (by omega), f1]
        · obtain ⟨⟨g1, g2⟩, g3⟩ := r6 w x hx
          refine ⟨⟨?_, g2.congr (fun q q0 q1 => ?_)⟩, g3⟩
          · rw [upI_ne (by omega), xK _ _ (by omega), upI_ne (by omega), g1]
          · rw [upI_ne (by omega), xK _ _ (by omega), upI_ne (by omega)]
    · rw [hI_p, r1] at c3
      rw [if_neg (fun z => c3 (by rw [z]; simp))] at e
      exact badj 3 (by decide) e
