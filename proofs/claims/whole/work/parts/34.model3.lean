/-! MODEL, part 3: readings from behind, by a counter; reads, begin -/
theorem rev_drop {xs : List Int} {t : Nat} (ht : t < xs.length) : (xs.take (t + 1)).reverse = xs[t] :: (xs.take t).reverse := by
  rw [List.take_succ_eq_append_getElem ht]
  simp
theorem m_sayBackward {I : Im} {r : Rs} {xs : List Int} {Q : Hp → Prop} (m : Mst r) (hw : rw_ I xs) (hs : sd I []) (hf : figs xs) (hl : xs.length ≤ 7680) (k : ∀ I', sd I' (sR 2 (-1) 0 xs.reverse) → Ex aSd I I' → Q (I', r)) : C_X12_sayBackward 363 (I, r) Q := by
  have m' := m
  unfold Mst at m'
  apply G_X12_sayBackward
  unfold V_X12_sayBackward
  simp only [hK_p, hI_p, m', hw.1]
  refine ⟨trivial, ⟨by omega, by omega⟩, fun x0 e0 => ?_⟩
  refine Lp_X12_sayBackward_7_ind (fun x h => ∃ (t : Nat) (J : Im) (o : List Int), x = (t : Int) - 1 ∧ t ≤ xs.length ∧ h = (J, r) ∧ sd J o ∧ Ex aSd I J ∧ o ++ sR 2 (-1) 0 (xs.take t).reverse = sR 2 (-1) 0 xs.reverse ∧ o.length + 2 * t ≤ 2 * xs.length) (fun x _ => (x + 1).toNat) ?_ _ _ ⟨xs.length, I, [], e0, Nat.le_refl _, rfl, hs, Ex.refl I, by simp, by simp⟩
  intro P x h hI ih
  obtain ⟨t, J, o, rfl, ht, rfl, s1, s2, s3, s4⟩ := hI
  have w1 := hw.kept s2
  unfold BLp_X12_sayBackward_7
  refine ⟨fun c => ?_, fun c => ?_⟩
  · have h0 : t = 0 := by omega
    subst h0
    have e0 : sR 2 (-1) 0 (List.take 0 xs).reverse = [] := sM_0 _ _
    rw [e0, List.append_nil] at s3
    exact k J (by rw [← s3]; exact s1) s2
  · obtain ⟨t', rfl⟩ : ∃ t', t = t' + 1 := ⟨t - 1, by omega⟩
    have htl : t' < xs.length := by omega
    have ft := hf _ (List.getElem_mem htl)
    have ex : ((t' + 1 : Nat) : Int) - 1 = (t' : Int) := by omega
    rw [ex]
    rw [ex] at ih
    have rt : J 380 (t' : Int) = xs[t'] := by have := w1.2.get htl; rw [Int.zero_add] at this; exact this
    refine Lp_X12_sayBackward_13_ind (fun x h => ∃ u : Nat, x = (u : Int) - 1 ∧ h = (J, r) ∧ u ≤ t' + 1 ∧ (u = t' + 1 ∨ sR 2 (-1) 0 (xs.take (t' + 1)).reverse = sR 2 xs[t'] (t' + 1 - u) (xs.take u).reverse)) (fun x _ => (x + 1).toNat) ?_ _ _ ⟨t' + 1, by omega, rfl, Nat.le_refl _, Or.inl rfl⟩
    intro P13 x h hI ih12
    obtain ⟨u, rfl, rfl, u1, u2⟩ := hI
    unfold BLp_X12_sayBackward_13
    simp only [hK_p, hI_p, hR_p, hL_p, m']
    have stop : u ≠ t' + 1 → (∀ y, (xs.take u).reverse.head? = some y → y ≠ xs[t'] ∧ y ≠ -1) → J_X12_sayBackward_38 P 363 ((u : Int) - 1) t' (J, r) Q := by
      intro hne hst
      unfold J_X12_sayBackward_38
      simp only [hK_p, hI_p, hR_p, hL_p, m', rt]
      have eu : (t' : Int) - ((u : Int) - 1) = ((t' + 1 - u : Nat) : Int) := by omega
      rw [eu]
      refine ⟨⟨by omega, by omega⟩, trivial, ⟨trivial, by omega, by omega⟩, trivial, ?_⟩
      refine m_sayRun m s1 (by omega) (by omega) (fun J' h1 h2 => ?_)
      refine ih _ _ ⟨u, J', _, rfl, by omega, rfl, h1, s2.trans h2 (fun _ _ z => z) (fun _ _ z => z), ?_, ?_⟩ (by omega)
      · rcases u2 with z | z
        · exact absurd z hne
        · rw [← s3, z, sR_stop hst]
          simp
      · have := sM_len 2 xs[t'] (t' + 1 - u)
        rw [List.length_append]
        omega
    refine ⟨fun c2 => ?_, fun c2 => ⟨trivial, ⟨trivial, by omega, by omega⟩, trivial, ⟨trivial, by omega, by omega⟩, ?_⟩⟩
    · have h0 : u = 0 := by omega
      refine stop (by omega) (fun y hy => ?_)
      rw [h0] at hy
      cases hy
    · obtain ⟨u', rfl⟩ : ∃ u', u = u' + 1 := ⟨u - 1, by omega⟩
      have hul : u' < xs.length := by omega
      have eu : ((u' + 1 : Nat) : Int) - 1 = (u' : Int) := by omega
      rw [eu] at stop ih12 ⊢
      have ru : J 380 (u' : Int) = xs[u'] := by have := w1.2.get hul; rw [Int.zero_add] at this; exact this
      rw [ru, rt]
      refine ⟨fun c3 => ?_, fun c3 => ⟨⟨by omega, by omega⟩, ih12 _ _ ⟨u', by omega, rfl, by omega, Or.inr ?_⟩ (by omega)⟩⟩
      · refine stop (fun z => c3 ?_) (fun y hy => ?_)
        · have : u' = t' := by omega
          subst this; rfl
        · rw [rev_drop hul] at hy
          have hy := Option.some.inj hy
          rw [← hy]
          have fu := hf _ (List.getElem_mem hul)
          exact ⟨c3, by omega⟩
      · rcases u2 with z | z
        · have : u' = t' := by omega
          subst this
          rw [rev_drop hul, sR_start (by omega)]
          congr 1
          omega
        · rw [z, rev_drop hul, c3, sR_same]
          congr 1
          omega
theorem m_sayAll {I : Im} {r : Rs} {xs : List Int} {Q : Hp → Prop} (m : Mst r) (hw : rw_ I xs) (hs : sd I []) (hf : figs xs) (hl : xs.length ≤ 7680) (k : ∀ I', sd I' (sayC xs 10) → Ex aSd I I' → Q (I', r)) : C_X12_sayAll 363 (I, r) Q := by
  have m' := m
  unfold Mst at m'
  apply G_X12_sayAll
  unfold V_X12_sayAll
  refine Lp_X12_sayAll_2_ind (fun x h => ∃ (t : Nat) (J : Im), x = t ∧ t ≤ 10 ∧ h = (J, r) ∧ sd J (sayC xs t) ∧ Ex aSd I J) (fun x _ => 10 - x.toNat) ?_ _ _ ⟨0, I, rfl, by omega, rfl, hs, Ex.refl I⟩
  intro P x h hI ih
  obtain ⟨t, J, rfl, ht, rfl, s1, s2⟩ := hI
  have w1 := hw.kept s2
  unfold BLp_X12_sayAll_2
  refine ⟨fun c => ?_, fun c => ?_⟩
  · have h0 : t = 10 := by omega
    subst h0
    exact k J s1 s2
  · refine Lp_X12_sayAll_12_ind (fun x2 x3 h => ∃ (u : Nat), x3 = u ∧ u ≤ xs.length ∧ h = (J, r) ∧ x2 = cnt t (xs.take u)) (fun x2 x3 h => xs.length - x3.toNat) ?_ _ _ _ ⟨0, rfl, Nat.zero_le _, rfl, rfl⟩
    intro P12 x2 x3 h hI ih12
    obtain ⟨u, rfl, u1, rfl, rfl⟩ := hI
    unfold BLp_X12_sayAll_12
    simp only [hK_p, hI_p, hR_p, hL_p, m', w1.1]
    have hcl := cnt_le t (xs.take u)
    rw [List.length_take] at hcl
    refine ⟨trivial, fun c2 => ?_, fun c2 => ⟨trivial, ⟨trivial, by omega, by omega⟩, ?_⟩⟩
    · have h0 : u = xs.length := by omega
      subst h0
      rw [List.take_length]
      refine ⟨trivial, ?_⟩
      have hb := sayC_len2 xs t
      have hb2 := cntS_le xs t
      have hb3 := cntS_le xs (t + 1)
      have hb4 : cntS xs (t + 1) = cntS xs t + cnt t xs := rfl
      refine m_sayRun m s1 (by omega) (by omega) (fun J' h1 h2 => ⟨⟨by omega, by omega⟩, ih _ _ ⟨t + 1, J', by omega, by omega, rfl, h1, s2.trans h2 (fun _ _ z => z) (fun _ _ z => z)⟩ (by omega)⟩)
    · have hul : u < xs.length := by omega
      have ru : J 380 (u : Int) = xs[u] := by have := w1.2.get hul; rw [Int.zero_add] at this; exact this
      have et : cnt t (xs.take (u + 1)) = cnt t (xs.take u) + (if xs[u] = (t : Int) then 1 else 0) := by
        rw [List.take_succ_eq_append_getElem hul, cnt_app]
        simp [cnt]
      rw [ru]
      refine ⟨fun c3 => ?_, fun c3 => ?_⟩
      · rw [if_neg c3] at et
        refine ⟨⟨by omega, by omega⟩, fun x e => ⟨⟨by omega, by omega⟩, ih12 _ _ _ ⟨u + 1, by omega, by omega, rfl, by omega⟩ (by omega)⟩⟩
      · rw [if_pos c3] at et
        refine ⟨⟨by omega, by omega⟩, fun x e => ⟨⟨by omega, by omega⟩, ih12 _ _ _ ⟨u + 1, by omega, by omega, rfl, by omega⟩ (by omega)⟩⟩
/-- where a reading may write -/
abbrev aRd : Nat → Int → Prop := fun a k => a = 380 ∨ a = 381 ∨ (a = 363 ∧ (k = 29 ∨ k = 31))
theorem m_reads {I : Im} {r : Rs} {kind : Int} {xs : List Int} {Q : Hp → Prop} (m : Mst r) (hw : rw_ I xs) (hf : figs xs) (hl : xs.length ≤ 7680) (k : ∀ I', rw_ I' (sayL kind xs) → Ex aRd I I' → Q (I', r)) : C_X12_reads 363 kind (I, r) Q := by
  have m' := m
  unfold Mst at m'
  have fin : ∀ J : Im, sd J (sayL kind xs) → Ex aSd (upI I 363 31 0) J → J_X12_reads_34 363 (J, r) Q := by
    intro J h1 h2
    have hlen := sayL_len kind xs
    unfold J_X12_reads_34
    simp only [hK_p, hI_p, hR_p, m', h1.1]
    refine ⟨trivial, trivial, trivial, ?_⟩
    refine m_bring (by simp only [m']) (by simp only [m']) (by omega) (by simp only [m']; omega) (by omega) (by simp only [m']; omega) (by omega) (by simp only [m']; omega) (by simp only [m']; omega) (Or.inl (by omega)) ?_
    simp only [hK_p, hI_p, hR_p, wI_p, m']
    refine ⟨trivial, trivial, fun h2' e => ?_⟩
    subst e
    have e31 : cpy J 381 0 380 0 ((sayL kind xs).length : Int) 363 31 = (sayL kind xs).length := by rw [cpy_at, if_neg (by omega), h1.1]
    rw [e31]
    refine k _ ⟨by rw [upI_self], ?_⟩ (fun a q hq => ?_)
    · refine h1.2.shift (fun q q0 q1 => ?_)
      rw [upI_ne (by omega), cpy_at, if_pos (by omega)]
      congr 1
      omega
    · rw [upI_ne (by omega), cpy_at, if_neg (by omega), h2 a q (by omega), upI_ne (by omega)]
  have hw1 : rw_ (upI I 363 31 0) xs := ⟨by rw [upI_ne (by omega)]; exact hw.1, hw.2.congr (fun q _ _ => upI_ne (by omega))⟩
  have hs1 : sd (upI I 363 31 0) [] := ⟨by rw [upI_self]; rfl, Seg.nil _ _⟩
  apply G_X12_reads
  unfold V_X12_reads
  simp only [hK_p, wI_p, m']
  refine ⟨trivial, fun h1 e => ?_⟩
  subst e
  refine ⟨fun c2 => ⟨fun c3 => ⟨m.1, m_sayRuns m hw1 hs1 hf hl (fun J h1 h2 => fin J ?_ h2)⟩, fun c3 => ⟨m.1, m_sayAll m hw1 hs1 hf hl (fun J h1 h2 => fin J ?_ h2)⟩⟩, fun c2 => ⟨m.1, m_sayBackward m hw1 hs1 hf hl (fun J h1 h2 => fin J ?_ h2)⟩⟩
  · unfold sayL
    rw [if_neg c3, if_neg c2]
    exact h1
  · unfold sayL
    rw [if_pos c3]
    exact h1
  · subst c2
    unfold sayL
    rw [if_neg (by omega), if_pos rfl]
    exact h1
abbrev NS : Type := List Int × Int × List (Int × Int)
/-- a state (row, readings, log) in a row of numbers from a place on -/
def NSm (f : Int → Int) (o : Int) (n : NS) : Prop := f o = n.1.length ∧ f (o + 1) = n.2.1 ∧ f (o + 2) = n.2.2.length ∧ Seg f (o + 3) n.1 ∧ Seg f (o + 63) (n.2.2.map (·.1)) ∧ Seg f (o + 83) (n.2.2.map (·.2))
def NSok (n : NS) : Prop := n.1.length ≤ 60 ∧ figs n.1 ∧ (0 ≤ n.2.1 ∧ n.2.1 ≤ 90020) ∧ n.2.2.length ≤ 20 ∧ ∀ q ∈ n.2.2, (0 ≤ q.1 ∧ q.1 ≤ 5) ∧ 0 ≤ q.2 ∧ q.2 ≤ 60
theorem NSm.congr {f g : Int → Int} {o : Int} {n : NS} (ok : NSok n) (h : NSm f o n) (e : ∀ k, o ≤ k → k < o + 103 → g k = f k) : NSm g o n := by
  obtain ⟨h1, h2, h3, h4, h5, h6⟩ := h
  obtain ⟨k1, -, -, k4, -⟩ := ok
  refine ⟨by rw [e _ (by omega) (by omega)]; exact h1, by rw [e _ (by omega) (by omega)]; exact h2, by rw [e _ (by omega) (by omega)]; exact h3, h4.congr (fun k a b => e k (by omega) (by omega)), h5.congr (fun k a b => e k (by omega) (by rw [List.length_map] at b; omega)), h6.congr (fun k a b => e k (by omega) (by rw [List.length_map] at b; omega))⟩
theorem NSm.shift {f g : Int → Int} {o o' : Int} {n : NS} (ok : NSok n) (h : NSm f o n) (e : ∀ k, 0 ≤ k → k < 103 → g (o' + k) = f (o + k)) : NSm g o' n := by
  obtain ⟨h1, h2, h3, h4, h5, h6⟩ := h
  obtain ⟨k1, -, -, k4, -⟩ := ok
  refine ⟨?_, by rw [e 1 (by omega) (by omega)]; exact h2, by rw [e 2 (by omega) (by omega)]; exact h3, h4.shift (fun k a b => ?_), h5.shift (fun k a b => ?_), h6.shift (fun k a b => ?_)⟩
  · have := e 0 (by omega) (by omega)
    simp at this
    rw [this]; exact h1
  · rw [Int.add_assoc, Int.add_assoc, e (3 + k) (by omega) (by omega)]
  · rw [List.length_map] at b
    rw [Int.add_assoc, Int.add_assoc, e (63 + k) (by omega) (by omega)]
  · rw [List.length_map] at b
    rw [Int.add_assoc, Int.add_assoc, e (83 + k) (by omega) (by omega)]
theorem m_begin {I : Im} {r : Rs} {n : NS} {Q : Hp → Prop} (m : Mst r) (hn : NSm (I 370) 0 n) (ok : NSok n) (k : ∀ I', rw_ I' n.1 → Ex aRd I I' → Q (I', r)) : C_X12_begin 363 (I, r) Q := by
  have m' := m
  unfold Mst at m'
  have hk := ok.1
  apply G_X12_begin
  unfold V_X12_begin
  simp only [hK_p, hL_p, hI_p, hR_p, wI_p, m', hn.1]
  refine ⟨trivial, ⟨trivial, by omega, by omega⟩, trivial, fun h1 e => ?_⟩
  subst e
  simp only [hK_p, hL_p, hI_p, hR_p, wI_p, m', upI_self]
  refine ⟨trivial, trivial, trivial, ?_⟩
  refine m_bring (by simp only [m']) (by simp only [m']) (by omega) (by simp only [m']; omega) (by omega) (by simp only [m']; omega) (by omega) (by simp only [m']; omega) (by simp only [m']; omega) (Or.inl (by omega)) ?_
  refine k _ ⟨by rw [cpy_at, if_neg (by omega), upI_self], ?_⟩ (fun a q hq => ?_)
  · refine hn.2.2.2.1.shift (fun q q0 q1 => ?_)
    rw [cpy_at, if_pos (by omega), upI_ne (by omega)]
    congr 1
    omega
  · rw [cpy_at, if_neg (by omega), upI_ne (by omega)]
