/-! ENGINE, part 3: rows that read and change the memory -/
theorem gtbl_of {w : Cond} (i : Nat) (h : lw_tbl[i]? = some w) (hg : goodWord w = true) : w ∈ gtbl := List.mem_filter.mpr ⟨List.mem_of_getElem? h, hg⟩
set_option maxRecDepth 100000 in
theorem cls_ok : ∀ (ci : Nat) (r : vw_C), vwCl[ci]? = some r → (∀ w ∈ u_ws r.1 r.2.1 r.2.2, w ∈ gtbl) ∧ (∀ k, k < r.2.2 → parseFieldDescriptor (r.2.1 k).2.2.1 = some (tyOf ci k)) ∧ (∀ a, a < r.2.2 → ∀ b, b < r.2.2 → a ≠ b → (r.2.1 a).2.1 ≠ (r.2.1 b).2.1) ∧ Cond.instantiable r.1 r.2.2 ∈ gtbl ∧ Cond.initialized r.1 ∈ gtbl := by
  intro ci r hr
  match ci, hr with
  | 0, hr => cases hr; exact ⟨by decide +kernel, tyX0_ok, nmX0, by decide +kernel, by decide +kernel⟩
  | 1, hr => cases hr; exact ⟨by decide +kernel, tyX1_ok, nmX1, by decide +kernel, by decide +kernel⟩
  | 2, hr => cases hr; exact ⟨by decide +kernel, tyX2_ok, nmX2, by decide +kernel, by decide +kernel⟩
  | 3, hr => cases hr; exact ⟨by decide +kernel, tyX3_ok, nmX3, by decide +kernel, by decide +kernel⟩
  | 4, hr => cases hr; exact ⟨by decide +kernel, tyX4_ok, nmX4, by decide +kernel, by decide +kernel⟩
  | 5, hr => cases hr; exact ⟨by decide +kernel, tyX5_ok, nmX5, by decide +kernel, by decide +kernel⟩
  | 6, hr => cases hr; exact ⟨by decide +kernel, tyX6_ok, nmX6, by decide +kernel, by decide +kernel⟩
  | 7, hr => cases hr; exact ⟨by decide +kernel, tyX8_ok, nmX8, by decide +kernel, by decide +kernel⟩
  | 8, hr => cases hr; exact ⟨by decide +kernel, tyX9_ok, nmX9, by decide +kernel, by decide +kernel⟩
  | 9, hr => cases hr; exact ⟨by decide +kernel, tyX10_ok, nmX10, by decide +kernel, by decide +kernel⟩
  | 10, hr => cases hr; exact ⟨by decide +kernel, tyX11_ok, nmX11, by decide +kernel, by decide +kernel⟩
  | 11, hr => cases hr; exact ⟨by decide +kernel, tyX12_ok, nmX12, by decide +kernel, by decide +kernel⟩
  | n + 12, hr => simp [vwCl] at hr
theorem cls_lt {ci : Nat} {r : vw_C} (h : vwCl[ci]? = some r) : ci < 12 := (List.getElem?_eq_some_iff.mp h).1
-- the memory's laws
theorem okH_lt {h : Hp} (o : okH h) {a c : Nat} (hk : hK h a = c) (hc : c < 18) : 2 ≤ a ∧ a < hN h := by
  obtain ⟨-, h1, h2, h3, -⟩ := o
  refine ⟨?_, ?_⟩
  · rcases Nat.lt_or_ge a 2 with q | q
    · rcases (show a = 0 ∨ a = 1 by omega) with rfl | rfl
      · rw [h2] at hk; omega
      · rw [h3] at hk; omega
    · exact q
  · rcases Nat.lt_or_ge a (hN h) with q | q
    · exact q
    · rw [h1 a q] at hk; omega
theorem ga_inj {base b i j : Nat} (hb : b < base) (hi : 2 ≤ i) (h : ga base b i = ga base b j) : i = j := by
  unfold ga at h
  split at h <;> split at h <;> omega
theorem ga_2 {base b k : Nat} (hk : 2 ≤ k) : ga base b k = base + k - 2 := by unfold ga; rw [if_neg (by omega)]
theorem ga_lo {base b k : Nat} (hk : 2 ≤ k) : base ≤ ga base b k := by rw [ga_2 hk]; omega
theorem rr_pos {g : Nat → Nat} {k : Nat} (hk : k ≠ 0) : rr g k = .ref (g k) := by unfold rr; rw [if_neg hk]
theorem rv_ref {g : Nat → Nat} {k : Nat} (hk : k ≠ 0) : rv g (.inr (.inr k)) = .ref (g k) := rr_pos hk
theorem cellR_kept {D : va_G} {cA : Nat → ClassId} {g : Nat → Nat} {h h' : Hp} {k : Nat} {H H' : Heap} (x : cellR D cA g h k H) (e1 : hK h' k = hK h k) (e2 : hL h' k = hL h k) (e3 : ∀ j, hI h' k j = hI h k j) (e4 : ∀ j, hR h' k j = hR h k j) (eq : H'[g k]? = H[g k]?) : cellR D cA g h' k H' := by
  have efv : fv g h' k = fv g h k := by
    funext j
    unfold fv
    rw [e1, e3, e4]
  refine ⟨fun r hr => ?_, fun a b => ?_, fun a b => ?_⟩
  · rw [e1] at hr ⊢
    rw [efv]
    exact (x.1 r hr).kept eq
  · rw [e1] at a b ⊢
    rw [eq, e2]
    simp only [e3]
    exact x.2.1 a b
  · rw [e1] at a b ⊢
    rw [eq, e2]
    simp only [e4]
    exact x.2.2 a b
theorem Rel.upd {base b : Nat} {D : va_G} {cA : Nat → ClassId} {s : State} {h h' : Hp} {H H' : Heap} {a : Nat} (x : Rel base b D cA s h H) (hb : b < base) (ha : 2 ≤ a) (e0 : hN h' = hN h) (e1 : ∀ k, hK h' k = hK h k) (e2 : ∀ k, hL h' k = hL h k) (e3 : ∀ k j, k ≠ a → hI h' k j = hI h k j) (e4 : ∀ k j, k ≠ a → hR h' k j = hR h k j) (sz : H'.size = H.size) (oq : ∀ q, q ≠ ga base b a → H'[q]? = H[q]?) (hc : cellR D cA (ga base b) h' a H') : Rel base b D cA s h' H' := by
  obtain ⟨x1, x2, x3⟩ := x
  refine ⟨by rw [sz, e0]; exact x1, fun k hk hl => ?_, ?_⟩
  · by_cases he : k = a
    · rw [he]; exact hc
    · exact cellR_kept (x2 k hk (by rw [← e0]; exact hl)) (e1 k) (e2 k) (fun j => e3 k j he) (fun j => e4 k j he) (oq _ (fun z => he (ga_inj hb hk z)))
  · have hne : b ≠ ga base b a := by have := ga_lo (base := base) (b := b) ha; omega
    have x4 := x3.kept (oq b hne)
    rw [e2 1]
    have e5 : (fun j : Nat => Int32.ofInt (hI h' 1 j)) = (fun j : Nat => Int32.ofInt (hI h 1 j)) := by
      funext j
      rw [e3 1 j (by omega)]
    rw [e5]
    exact x4
theorem Rel.push {base b : Nat} {D : va_G} {cA : Nat → ClassId} {s : State} {h h' : Hp} {H H' : Heap} (x : Rel base b D cA s h H) (oh : okH h) (e0 : hN h' = hN h + 1) (e1 : ∀ k, k ≠ hN h → hK h' k = hK h k) (e2 : ∀ k, k ≠ hN h → hL h' k = hL h k) (e3 : ∀ k j, k ≠ hN h → hI h' k j = hI h k j) (e4 : ∀ k j, k ≠ hN h → hR h' k j = hR h k j) (hb : b < base) (sz : H'.size = H.size + 1) (oq : ∀ q, q < H.size → H'[q]? = H[q]?) (hc : cellR D cA (ga base b) h' (hN h) H') : Rel base b D cA s h' H' := by
  obtain ⟨x1, x2, x3⟩ := x
  have h2 := oh.1
  refine ⟨by rw [sz, e0]; omega, fun k hk hl => ?_, ?_⟩
  · by_cases he : k = hN h
    · rw [he]; exact hc
    · exact cellR_kept (x2 k hk (by omega)) (e1 k he) (e2 k he) (fun j => e3 k j he) (fun j => e4 k j he) (oq _ (by rw [ga_2 hk]; omega))
  · have x4 := x3.kept (oq b (by omega))
    rw [e2 1 (by omega)]
    have e5 : (fun j : Nat => Int32.ofInt (hI h' 1 j)) = (fun j : Nat => Int32.ofInt (hI h 1 j)) := by
      funext j
      rw [e3 1 j (by omega)]
    rw [e5]
    exact x4
theorem okH_wI {h : Hp} {a : Nat} {k v : Int} (o : okH h) (hv : okv (.inl v)) (hb : hK h a = 13 → -128 ≤ v ∧ v ≤ 127) : okH (wI h a k v) := by
  obtain ⟨o1, o2, o3, o4, o5, o6, o7⟩ := o
  refine ⟨o1, o2, o3, o4, fun c j => ?_, o6, fun c j hc => ?_⟩
  · show _ ≤ (if c = a ∧ j = k then v else hI h c j) ∧ (if c = a ∧ j = k then v else hI h c j) ≤ _
    split
    · exact hv
    · exact o5 c j
  · show _ ≤ (if c = a ∧ j = k then v else hI h c j) ∧ (if c = a ∧ j = k then v else hI h c j) ≤ _
    split
    · rename_i q
      exact hb (by rw [← q.1]; exact hc)
    · exact o7 c j hc
theorem okH_wR {h : Hp} {a : Nat} {k : Int} {v : Nat} (o : okH h) : okH (wR h a k v) := o
theorem okH_al {h : Hp} {kd : Nat} {n : Int} {sl : Nat} (o : okH h) (hn : 0 ≤ n ∧ n ≤ 2147483647) : okH (al h kd n sl) := by
  obtain ⟨o1, o2, o3, o4, o5, o6, o7⟩ := o
  refine ⟨Nat.le_succ_of_le o1, fun a ha => ?_, ?_, ?_, fun c j => ?_, fun c => ?_, fun c j hc => ?_⟩
  · have ha' : hN h + 1 ≤ a := ha
    show (if a = hN h then kd else hK h a) = 99
    rw [if_neg (by omega)]
    exact o2 a (by omega)
  · show (if 0 = hN h then kd else hK h 0) = 99
    rw [if_neg (by omega)]; exact o3
  · show (if 1 = hN h then kd else hK h 1) = 18
    rw [if_neg (by omega)]; exact o4
  · show _ ≤ (if c = hN h then 0 else hI h c j) ∧ (if c = hN h then 0 else hI h c j) ≤ _
    split
    · omega
    · exact o5 c j
  · show 0 ≤ (if c = hN h then n else hL h c) ∧ (if c = hN h then n else hL h c) ≤ _
    split
    · exact hn
    · exact o6 c
  · show _ ≤ (if c = hN h then 0 else hI h c j) ∧ (if c = hN h then 0 else hI h c j) ≤ _
    split
    · omega
    · rename_i q
      refine o7 c j ?_
      have hc' : (if c = hN h then kd else hK h c) = 13 := hc
      rw [if_neg q] at hc'
      exact hc'
theorem okH_cpI {h : Hp} {a : Nat} {i : Int} {b : Nat} {j n : Int} (o : okH h) (ha : hK h a = 13) : okH (cpI h a i b j n) := by
  obtain ⟨o1, o2, o3, o4, o5, o6, o7⟩ := o
  refine ⟨o1, o2, o3, o4, fun c k => ?_, o6, fun c k hc => ?_⟩
  · show _ ≤ (if c = b ∧ j ≤ k ∧ k < j + n then hI h a (i + (k - j)) else hI h c k) ∧ (if c = b ∧ j ≤ k ∧ k < j + n then hI h a (i + (k - j)) else hI h c k) ≤ _
    split
    · exact o5 a _
    · exact o5 c k
  · show _ ≤ (if c = b ∧ j ≤ k ∧ k < j + n then hI h a (i + (k - j)) else hI h c k) ∧ (if c = b ∧ j ≤ k ∧ k < j + n then hI h a (i + (k - j)) else hI h c k) ≤ _
    split
    · exact o7 a _ ha
    · exact o7 c k hc
theorem Kn.arr {D : va_G} {cA : Nat → ClassId} {s : State} (x : Kn D cA s) (i : Nat) {q : ClassId × FieldType} (h : (tysOf cA)[i]? = some q) : ArrOfT s q.1 q.2 ∧ va_RA s q.1 q.2 := x.1.2 i q h
