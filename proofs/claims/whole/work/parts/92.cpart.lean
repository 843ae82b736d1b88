/-! COMPONENT, part 22: a run said in parts -/
theorem sMl0_len (f : Int) : ∀ n : Nat, (sMl 0 f n).length = 2 * ((n + 8) / 9) := by
  intro n
  induction n using Nat.strongRecOn with
  | ind n ih =>
    by_cases h : n = 0
    · subst h; rw [sMl_0]; rfl
    · rw [sMl_s 0 f h, List.length_append, ih (n - 9) (by omega)]
      have : (emit 0 ((min n 9 : Nat) : Int) f).length = 2 := by
        unfold emit
        rw [if_neg (by decide), if_neg (fun z => absurd z.1 (by decide))]; rfl
      omega
theorem sMl_split (f : Int) (b : Nat) : ∀ a : Nat, sMl 0 f (9 * a + b) = sMl 0 f (9 * a) ++ sMl 0 f b
  | 0 => by rw [Nat.mul_zero, Nat.zero_add, sMl_0, List.nil_append]
  | a + 1 => by
    rw [sMl_s 0 f (show 9 * (a + 1) + b ≠ 0 by omega), sMl_s 0 f (show 9 * (a + 1) ≠ 0 by omega), show 9 * (a + 1) + b - 9 = 9 * a + b by omega, show 9 * (a + 1) - 9 = 9 * a by omega, sMl_split f b a, List.append_assoc, show min (9 * (a + 1) + b) 9 = 9 by omega, show min (9 * (a + 1)) 9 = 9 by omega]
theorem sMl_head (f : Int) {n : Nat} (h : n ≠ 0) : ∃ z, sMl 0 f n = ((min n 9 : Nat) : Int) :: z := by
  rw [sMl_s 0 f h]
  unfold emit
  rw [if_neg (by decide), if_neg (fun z => absurd z.1 (by decide))]
  exact ⟨_, rfl⟩
theorem sMl_cut (f : Int) {m t : Nat} (ht : 1 ≤ t) : sMl 0 f (m + t) = sMl 0 f m ++ sMl 0 f t ↔ m % 9 = 0 := by
  have e1 : m = 9 * (m / 9) + m % 9 := by omega
  refine ⟨fun h => ?_, fun h => ?_⟩
  · by_cases hb : m % 9 = 0
    · exact hb
    · exfalso
      rw [show m + t = 9 * (m / 9) + (m % 9 + t) by omega, sMl_split] at h
      have h2 : sMl 0 f m = sMl 0 f (9 * (m / 9)) ++ sMl 0 f (m % 9) := by
        have := sMl_split f (m % 9) (m / 9)
        rw [← e1] at this; exact this
      rw [h2, List.append_assoc] at h
      have h3 := List.append_cancel_left h
      obtain ⟨z1, k1⟩ := sMl_head f (show m % 9 + t ≠ 0 by omega)
      obtain ⟨z2, k2⟩ := sMl_head f hb
      rw [k1, k2, List.cons_append] at h3
      have h4 := (List.cons.inj h3).1
      omega
  · rw [show m = 9 * (m / 9) by omega]
    exact sMl_split f t (m / 9)
/-- a row walked: the figure that runs, how many of it, what is said ahead of it -/
def wk (l : Int) (m : Nat) (o : List Int) : List Int → Int × Nat × List Int
  | [] => (l, m, o)
  | x :: xs => if x = l then wk l (m + 1) o xs else wk x 1 (o ++ sM 0 m l) xs
theorem wk_sR (V : List Int) : ∀ (U : List Int) (l : Int) (m : Nat) (o : List Int), o ++ sR 0 l m (U ++ V) = (wk l m o U).2.2 ++ sR 0 (wk l m o U).1 (wk l m o U).2.1 V
  | [], l, m, o => rfl
  | x :: U, l, m, o => by
    by_cases e : x = l
    · subst e
      have e1 : wk x m o (x :: U) = wk x (m + 1) o U := if_pos rfl
      rw [e1, ← wk_sR V U x (m + 1) o, List.cons_append, sR_same]
    · have e1 : wk l m o (x :: U) = wk x 1 (o ++ sM 0 m l) U := if_neg e
      rw [e1, ← wk_sR V U x 1 (o ++ sM 0 m l), List.cons_append, sR_other e, List.append_assoc]
theorem sR_lead (v : Int) : ∀ V : List Int, ∃ (k : Nat) (W : List Int), ∀ n : Nat, sR 0 v n V = sM 0 (n + k) v ++ W
  | [] => ⟨0, [], fun n => by rw [List.append_nil]; rfl⟩
  | x :: V => by
    by_cases e : x = v
    · subst e
      obtain ⟨k, W, h⟩ := sR_lead x V
      exact ⟨k + 1, W, fun n => by rw [sR_same, h (n + 1), show n + 1 + k = n + (k + 1) by omega]⟩
    · exact ⟨0, sR 0 x 1 V, fun n => by rw [sR_other e]; rfl⟩
theorem sM_k0 (m : Nat) (f : Int) : sM 0 m f = sMl 0 f m := by
  unfold sM
  rw [if_neg (by decide)]
theorem cut_iff {U V : List Int} {v : Int} (hv : v ≠ -1) : (sR 0 (-1) 0 (U ++ v :: V) = sR 0 (-1) 0 U ++ sR 0 (-1) 0 (v :: V)) ↔ (v ≠ (wk (-1) 0 [] U).1 ∨ (wk (-1) 0 [] U).2.1 % 9 = 0) := by
  have h1 := wk_sR (v :: V) U (-1) 0 []
  have h2 := wk_sR [] U (-1) 0 []
  rw [List.nil_append] at h1 h2
  rw [List.append_nil] at h2
  rw [h1, h2, sR_start hv]
  generalize wk (-1) 0 [] U = q at *
  obtain ⟨l, m, o⟩ := q
  show o ++ sR 0 l m (v :: V) = o ++ sM 0 m l ++ sR 0 v 1 V ↔ _
  by_cases e : v = l
  · subst e
    obtain ⟨k, W, h⟩ := sR_lead v V
    rw [sR_same, h (m + 1), h 1, List.append_assoc, ← List.append_assoc (sM 0 m v), sM_k0, sM_k0, sM_k0, show m + 1 + k = m + (1 + k) by omega]
    have c := sMl_cut v (m := m) (t := 1 + k) (by omega)
    refine ⟨fun z => Or.inr (c.mp (List.append_cancel_right (List.append_cancel_left z))), fun z => ?_⟩
    rcases z with z | z
    · exact absurd rfl z
    · rw [c.mpr z]
  · rw [sR_other e, List.append_assoc]
    exact ⟨fun _ => Or.inl e, fun _ => rfl⟩
