/-! MODEL, part 2: readings -/
abbrev aSd : Nat → Int → Prop := fun a k => a = 381 ∨ (a = 363 ∧ k = 31)
theorem sr_81 {P : Int → Hp → Prop} {I : Im} {r : Rs} {kind fig x4 y0 : Int} {out : List Int} {Q : Hp → Prop} (m : Mst r) (hs : sd I out) (hl : out.length < 15360) (hx : 0 ≤ x4 ∧ x4 ≤ 100000) (hy : 0 ≤ y0 ∧ y0 ≤ 9) (k : ∀ I', sd I' (out ++ [fig]) → Ex aSd I I' → P (x4 - y0) (I', r)) : J_X12_sayRun_81 P 363 kind fig x4 y0 (I, r) Q := by
  unfold J_X12_sayRun_81
  refine ⟨m.1, m_say m hs hl (fun I' h1 h2 => ⟨⟨by omega, by omega⟩, fun x e => ?_⟩)⟩
  rw [e]
  exact k I' h1 h2
theorem sr_43 {P : Int → Hp → Prop} {I : Im} {r : Rs} {kind fig x4 y0 : Int} {out : List Int} {Q : Hp → Prop} (m : Mst r) (hs : sd I out) (hl : out.length + 2 ≤ 15360) (hx : 0 ≤ x4 ∧ x4 ≤ 100000) (hy : 0 ≤ y0 ∧ y0 ≤ 9) (k : ∀ I', sd I' (out ++ emit kind y0 fig) → Ex aSd I I' → P (x4 - y0) (I', r)) : J_X12_sayRun_43 P 363 kind fig x4 y0 (I, r) Q := by
  have h75 : emit kind y0 fig = [y0, fig] → J_X12_sayRun_75 P 363 kind fig x4 y0 (I, r) Q := by
    intro he
    unfold J_X12_sayRun_75
    refine ⟨m.1, m_say m hs (by omega) (fun I1 h1 h2 => ?_)⟩
    refine sr_81 m h1 (by simp; omega) hx hy (fun I2 h3 h4 => ?_)
    refine k I2 ?_ (h2.trans h4 (fun _ _ z => z) (fun _ _ z => z))
    rw [he]
    simpa using h3
  unfold J_X12_sayRun_43
  refine ⟨fun c1 => ⟨fun c4 => h75 ?_, fun c4 => ⟨fun c => ?_, fun c => h75 ?_⟩⟩, fun c1 => ?_⟩
  · unfold emit; rw [if_neg c1, if_neg (fun z => c4 z.1)]
  · refine sr_81 m hs (by omega) hx hy (fun I2 h3 h4 => k I2 ?_ h4)
    unfold emit; rw [if_neg c1, if_pos ⟨c4, c⟩]
    exact h3
  · unfold emit; rw [if_neg c1, if_neg (fun z => c z.2)]
  · refine ⟨m.1, m_say m hs (by omega) (fun I1 h1 h2 => ⟨m.1, m_say m h1 (by simp; omega) (fun I2 h3 h4 => ⟨⟨by omega, by omega⟩, fun x e => ?_⟩)⟩)⟩
    rw [e]
    refine k I2 ?_ (h2.trans h4 (fun _ _ z => z) (fun _ _ z => z))
    unfold emit; rw [if_pos c1]
    simpa using h3
theorem sr_loop {I : Im} {r : Rs} {kind fig : Int} {n : Nat} {out : List Int} {Q : Hp → Prop} (m : Mst r) (hs : sd I out) (hl : out.length + 2 * ((n + 8) / 9) ≤ 15360) (hn : n ≤ 100000) (k : ∀ I', sd I' (out ++ sMl kind fig n) → Ex aSd I I' → Q (I', r)) : Lp_X12_sayRun_24 363 kind fig n (I, r) Q := by
  refine Lp_X12_sayRun_24_ind (fun x h => ∃ (t : Nat) (J : Im) (o : List Int), x = t ∧ t ≤ n ∧ h = (J, r) ∧ sd J o ∧ Ex aSd I J ∧ o ++ sMl kind fig t = out ++ sMl kind fig n ∧ o.length + 2 * ((t + 8) / 9) ≤ 15360) (fun x _ => x.toNat) ?_ _ _ ⟨n, I, out, rfl, Nat.le_refl _, rfl, hs, Ex.refl I, rfl, hl⟩
  intro P x h hI ih
  obtain ⟨t, J, o, rfl, ht, rfl, s1, s2, s3, s4⟩ := hI
  unfold BLp_X12_sayRun_24
  have step : ∀ y : Int, y = ((min t 9 : Nat) : Int) → ¬ (t : Int) ≤ 0 → J_X12_sayRun_43 P 363 kind fig t y (J, r) Q := by
    intro y hy h0
    refine sr_43 m s1 (by omega) ⟨by omega, by omega⟩ ⟨by omega, by omega⟩ (fun J' h1 h2 => ?_)
    refine ih _ _ ⟨t - 9, J', _, ?_, by omega, rfl, h1, s2.trans h2 (fun _ _ z => z) (fun _ _ z => z), ?_, ?_⟩ (by omega)
    · omega
    · rw [← s3, sMl_s kind fig (show t ≠ 0 by omega), hy]
      simp
    · have := emit_len kind y fig
      rw [List.length_append]
      omega
  refine ⟨fun c => ?_, fun c => ⟨fun c2 => step _ (by omega) c, fun c2 => step _ (by omega) c⟩⟩
  have h0 : t = 0 := by omega
  subst h0
  rw [sMl_0, List.append_nil] at s3
  exact k J (by rw [← s3]; exact s1) s2
theorem m_sayRun {I : Im} {r : Rs} {kind fig : Int} {n : Nat} {out : List Int} {Q : Hp → Prop} (m : Mst r) (hs : sd I out) (hl : out.length + 2 * ((n + 8) / 9) ≤ 15360) (hn : n ≤ 100000) (k : ∀ I', sd I' (out ++ sM kind n fig) → Ex aSd I I' → Q (I', r)) : C_X12_sayRun 363 kind n fig (I, r) Q := by
  apply G_X12_sayRun
  unfold V_X12_sayRun
  refine ⟨fun c => ?_, fun c => ⟨fun c2 => ?_, fun c2 => ?_⟩⟩
  · refine sr_loop m hs hl hn (fun I' h1 h2 => k I' ?_ h2)
    unfold sM
    rw [if_neg c]
    exact h1
  · refine sr_loop m hs hl hn (fun I' h1 h2 => k I' ?_ h2)
    unfold sM
    rw [if_pos c, Nat.min_eq_left (by omega)]
    exact h1
  · refine ⟨m.1, m_say m hs (by omega) (fun I1 h1 h2 => ⟨m.1, m_say m h1 (by simp; omega) (fun I2 h3 h4 => ?_)⟩)⟩
    refine k I2 ?_ (h2.trans h4 (fun _ _ z => z) (fun _ _ z => z))
    unfold sM
    rw [if_pos c, Nat.min_eq_right (by omega), sMl_s _ _ (by omega), sMl_0]
    have e : emit kind ((min 3 9 : Nat) : Int) fig = [3, fig] := by
      unfold emit
      rw [if_neg (by omega), if_neg (by omega)]
      rfl
    rw [e]
    simpa using h3
/-- the row that is read -/
def rw_ (I : Im) (xs : List Int) : Prop := I 363 29 = xs.length ∧ Seg (I 380) 0 xs
theorem rw_.kept {I I' : Im} {xs : List Int} (h : rw_ I xs) (e : Ex aSd I I') : rw_ I' xs := ⟨by rw [e 363 29 (by omega)]; exact h.1, h.2.congr (fun k _ _ => e 380 k (by omega))⟩
theorem drop_cons {xs : List Int} {k : Nat} (h : k < xs.length) : xs.drop k = xs[k] :: xs.drop (k + 1) := List.drop_eq_getElem_cons h
theorem m_sayRuns {I : Im} {r : Rs} {kind : Int} {xs : List Int} {Q : Hp → Prop} (m : Mst r) (hw : rw_ I xs) (hs : sd I []) (hf : figs xs) (hl : xs.length ≤ 7680) (k : ∀ I', sd I' (sR kind (-1) 0 xs) → Ex aSd I I' → Q (I', r)) : C_X12_sayRuns 363 kind (I, r) Q := by
  have m' := m
  unfold Mst at m'
  apply G_X12_sayRuns
  unfold V_X12_sayRuns
  refine Lp_X12_sayRuns_2_ind (fun x h => ∃ (t : Nat) (J : Im) (o : List Int), x = t ∧ t ≤ xs.length ∧ h = (J, r) ∧ sd J o ∧ Ex aSd I J ∧ o ++ sR kind (-1) 0 (xs.drop t) = sR kind (-1) 0 xs ∧ o.length ≤ 2 * t) (fun x _ => xs.length - x.toNat) ?_ _ _ ⟨0, I, [], rfl, Nat.zero_le _, rfl, hs, Ex.refl I, by simp, by simp⟩
  intro P x h hI ih
  obtain ⟨t, J, o, rfl, ht, rfl, s1, s2, s3, s4⟩ := hI
  have w1 := hw.kept s2
  unfold BLp_X12_sayRuns_2
  simp only [hK_p, hI_p, m', w1.1]
  refine ⟨trivial, fun c => ?_, fun c => ?_⟩
  · have h0 : t = xs.length := by omega
    subst h0
    rw [List.drop_length] at s3
    have e0 : sR kind (-1) 0 [] = [] := sM_0 _ _
    rw [e0, List.append_nil] at s3
    exact k J (by rw [← s3]; exact s1) s2
  · have htl : t < xs.length := by omega
    have ft := hf _ (List.getElem_mem htl)
    refine Lp_X12_sayRuns_12_ind (fun x h => ∃ u : Nat, x = u ∧ h = (J, r) ∧ t ≤ u ∧ u ≤ xs.length ∧ (u = t ∨ sR kind (-1) 0 (xs.drop t) = sR kind xs[t] (u - t) (xs.drop u))) (fun x _ => xs.length - x.toNat) ?_ _ _ ⟨t, rfl, rfl, Nat.le_refl _, ht, Or.inl rfl⟩
    intro P12 x h hI ih12
    obtain ⟨u, rfl, rfl, u0, u1, u2⟩ := hI
    unfold BLp_X12_sayRuns_12
    simp only [hK_p, hI_p, hR_p, hL_p, m', w1.1]
    have rt : J 380 (t : Int) = xs[t] := by have := w1.2.get htl; rw [Int.zero_add] at this; exact this
    have stop : u ≠ t → (∀ y, (xs.drop u).head? = some y → y ≠ xs[t] ∧ y ≠ -1) → J_X12_sayRuns_41 P 363 kind u t (J, r) Q := by
      intro hne hst
      unfold J_X12_sayRuns_41
      simp only [hK_p, hI_p, hR_p, hL_p, m', rt]
      have eu : (u : Int) - (t : Int) = ((u - t : Nat) : Int) := by omega
      rw [eu]
      refine ⟨⟨by omega, by omega⟩, trivial, ⟨trivial, by omega, by omega⟩, trivial, ?_⟩
      refine m_sayRun m s1 (by omega) (by omega) (fun J' h1 h2 => ?_)
      refine ih _ _ ⟨u, J', _, rfl, u1, rfl, h1, s2.trans h2 (fun _ _ z => z) (fun _ _ z => z), ?_, ?_⟩ (by omega)
      · rcases u2 with z | z
        · exact absurd z hne
        · rw [← s3, z, sR_stop hst]
          simp
      · have := sM_len kind xs[t] (u - t)
        rw [List.length_append]
        omega
    refine ⟨trivial, fun c2 => ?_, fun c2 => ⟨trivial, ⟨trivial, by omega, by omega⟩, trivial, ⟨trivial, by omega, by omega⟩, ?_⟩⟩
    · have h0 : u = xs.length := by omega
      refine stop (by omega) (fun y hy => ?_)
      rw [h0, List.drop_length] at hy
      cases hy
    · have hul : u < xs.length := by omega
      have ru : J 380 (u : Int) = xs[u] := by have := w1.2.get hul; rw [Int.zero_add] at this; exact this
      rw [ru, rt]
      refine ⟨fun c3 => ?_, fun c3 => ⟨⟨by omega, by omega⟩, ih12 _ _ ⟨u + 1, by omega, rfl, by omega, by omega, Or.inr ?_⟩ (by omega)⟩⟩
      · refine stop (fun z => c3 ?_) (fun y hy => ?_)
        · subst z; rfl
        · rw [drop_cons hul] at hy
          have hy := Option.some.inj hy
          rw [← hy]
          have fu := hf _ (List.getElem_mem hul)
          exact ⟨c3, by omega⟩
      · rcases u2 with z | z
        · subst z
          rw [drop_cons hul, sR_start (by omega)]
          congr 1
          omega
        · rw [z, drop_cons hul, c3, sR_same]
          congr 1
          omega
