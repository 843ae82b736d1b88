/-! COMPONENT, part 24: the places of a row -/
theorem sayL0 (xs : List Int) : sayL 0 xs = sR 0 (-1) 0 xs := by
  unfold sayL
  rw [if_neg (by decide), if_neg (by decide)]
theorem sR0_pos (v : Int) (V : List Int) (hv : v ≠ -1) : 1 ≤ (sR 0 (-1) 0 (v :: V)).length := by
  rw [sR_start hv]
  obtain ⟨k, W, h⟩ := sR_lead v V
  rw [h 1, List.length_append, sM_k0, sMl0_len]
  omega
theorem sayN0_pos {xs : List Int} (hf : figs xs) (hx : 1 ≤ xs.length) : ∀ n : Nat, 1 ≤ (sayN 0 xs n).length
  | 0 => hx
  | n + 1 => by
    have ih := sayN0_pos hf hx n
    have hf := sayN_fig 0 hf n
    show 1 ≤ (sayL 0 (sayN 0 xs n)).length
    rw [sayL0]
    generalize sayN 0 xs n = X at *
    match X, ih, hf with
    | [], ih, _ => exact absurd ih (by decide)
    | v :: V, _, hf => exact sR0_pos v V (by have := hf v (List.mem_cons_self ..); omega)
theorem apN_at {row : List Int} {p : Nat} : ∀ {n : Nat}, apN row p n = true → sayN 0 row n = sayN 0 (row.take p) n ++ sayN 0 (row.drop p) n
  | 0, _ => (List.take_append_drop p row).symm
  | n + 1, h => by
    have h : (apN row p n && decide (sayN 0 row (n + 1) = sayN 0 (row.take p) (n + 1) ++ sayN 0 (row.drop p) (n + 1))) = true := h
    rw [Bool.and_eq_true] at h
    exact of_decide_eq_true h.2
theorem apN_ahead {row : List Int} {p n : Nat} (h : apN row p (n + 1) = true) : apN row p n = true := by
  have h : (apN row p n && decide (sayN 0 row (n + 1) = sayN 0 (row.take p) (n + 1) ++ sayN 0 (row.drop p) (n + 1))) = true := h
  rw [Bool.and_eq_true] at h
  exact h.1
/-- whether a place is kept in the next round -/
theorem apN_keep {row : List Int} {p n : Nat} (hf : figs row) (hp : p < row.length) (h : apN row p n = true) : apN row p (n + 1) = true ↔ kpt (sayN 0 row n) (sayN 0 (row.take p) n).length := by
  have e := apN_at h
  have h1 : apN row p (n + 1) = true ↔ sayN 0 row (n + 1) = sayN 0 (row.take p) (n + 1) ++ sayN 0 (row.drop p) (n + 1) := by
    show (apN row p n && decide _) = true ↔ _
    rw [h, Bool.true_and, decide_eq_true_iff]
  rw [h1]
  show sayL 0 (sayN 0 row n) = sayL 0 (sayN 0 (row.take p) n) ++ sayL 0 (sayN 0 (row.drop p) n) ↔ _
  rw [sayL0, sayL0, sayL0]
  have hd : figs (row.drop p) := fun v hv => hf v (List.mem_of_mem_drop hv)
  have pos := sayN0_pos hd (by simp; omega) n
  have fd := sayN_fig 0 hd n
  rw [e]
  generalize sayN 0 (row.take p) n = U at *
  generalize sayN 0 (row.drop p) n = V at *
  match V, pos, fd with
  | [], pos, _ => exact absurd pos (by decide)
  | v :: V, _, fd =>
    have hv := fd v (List.mem_cons_self ..)
    rw [cut_iff (by omega)]
    unfold kpt
    have e1 : (U ++ v :: V).getD U.length 0 = v := by simp
    have e2 : (U ++ v :: V).take U.length = U := by simp
    rw [e1, e2]
theorem cut_lead {U V : List Int} {v : Int} (hv : v ≠ -1) (h : sR 0 (-1) 0 (U ++ v :: V) = sR 0 (-1) 0 U ++ sR 0 (-1) 0 (v :: V)) (W : List Int) : (sR 0 (-1) 0 U).length < (sR 0 (-1) 0 (U ++ v :: W)).length := by
  have h2 := (cut_iff (U := U) (V := W) hv).mpr ((cut_iff hv).mp h)
  have h3 := sR0_pos v W hv
  rw [h2, List.length_append]
  omega
theorem apN_mono {row : List Int} {p q : Nat} (hf : figs row) (hpq : p < q) (hq : q < row.length) : ∀ {n : Nat}, apN row p n = true → apN row q n = true → (sayN 0 (row.take p) n).length < (sayN 0 (row.take q) n).length
  | 0, _, _ => by
    show (row.take p).length < (row.take q).length
    rw [List.length_take, List.length_take]; omega
  | n + 1, h1, h2 => by
    have ih := apN_mono hf hpq hq (apN_ahead h1) (apN_ahead h2)
    have a1 := apN_at h1
    have a2 := apN_at (apN_ahead h1)
    have a3 := apN_at (apN_ahead h2)
    have hd : figs (row.drop p) := fun v hv => hf v (List.mem_of_mem_drop hv)
    have fd := sayN_fig 0 hd n
    have b1 : sayL 0 (sayN 0 row n) = sayL 0 (sayN 0 (row.take p) n) ++ sayL 0 (sayN 0 (row.drop p) n) := a1
    show (sayL 0 (sayN 0 (row.take p) n)).length < (sayL 0 (sayN 0 (row.take q) n)).length
    rw [sayL0, sayL0, sayL0] at b1
    rw [sayL0, sayL0]
    rw [a2] at b1 a3
    generalize sayN 0 (row.take p) n = U at *
    generalize sayN 0 (row.drop p) n = V at *
    generalize sayN 0 (row.take q) n = U2 at *
    generalize sayN 0 (row.drop q) n = V2 at *
    have e1 : U2 = (U ++ V).take U2.length := by rw [a3]; simp
    rw [List.take_append, List.take_of_length_le (by omega)] at e1
    obtain ⟨t, ht⟩ : ∃ t, U2.length - U.length = t + 1 := ⟨U2.length - U.length - 1, by omega⟩
    rw [ht] at e1
    match V, b1, e1, fd with
    | [], _, e1, _ =>
      have := congrArg List.length e1
      simp at this
      omega
    | v :: V, b1, e1, fd =>
      have hv := fd v (List.mem_cons_self ..)
      rw [e1, List.take_succ_cons]
      exact cut_lead (by omega) b1 (V.take t)
/-- the places 1 .. m at which a row has fallen apart through n rounds -/
def plc (row : List Int) (n : Nat) : Nat → List Nat
  | 0 => []
  | m + 1 => if apN row (m + 1) n = true then plc row n m ++ [m + 1] else plc row n m
theorem plc_s (row : List Int) (n m : Nat) : plc row n (m + 1) = if apN row (m + 1) n = true then plc row n m ++ [m + 1] else plc row n m := rfl
theorem plc_mem {row : List Int} {n p : Nat} : ∀ {m : Nat}, p ∈ plc row n m → (1 ≤ p ∧ p ≤ m) ∧ apN row p n = true
  | 0, h => by cases h
  | m + 1, h => by
    rw [plc_s] at h
    split at h
    · rename_i e
      rcases List.mem_append.mp h with z | z
      · have := plc_mem z; exact ⟨by omega, this.2⟩
      · rw [List.mem_singleton.mp z]; exact ⟨by omega, e⟩
    · have := plc_mem h; exact ⟨by omega, this.2⟩
theorem plc_len (row : List Int) (n : Nat) : ∀ m : Nat, (plc row n m).length ≤ m
  | 0 => Nat.le_refl _
  | m + 1 => by
    have := plc_len row n m
    rw [plc_s]
    split
    · rw [List.length_append]; show _ + 1 ≤ _; omega
    · omega
theorem plc_0 (row : List Int) (m : Nat) : plc row 0 (m + 1) = plc row 0 m ++ [m + 1] := by
  rw [plc_s]; exact if_pos rfl
theorem plc_next (row : List Int) (n : Nat) : ∀ m : Nat, (plc row n m).filter (fun p => apN row p (n + 1)) = plc row (n + 1) m
  | 0 => rfl
  | m + 1 => by
    rw [plc_s, plc_s]
    by_cases e : apN row (m + 1) n = true
    · rw [if_pos e, filter_snoc, plc_next row n m]
    · rw [if_neg e, if_neg (fun z => e (apN_ahead z)), plc_next row n m]
theorem plc_so {row : List Int} (hf : figs row) {n : Nat} : ∀ {m : Nat}, m < row.length ∨ m = 0 → (plc row n m).Pairwise (fun p q => (sayN 0 (row.take p) n).length < (sayN 0 (row.take q) n).length)
  | 0, _ => List.Pairwise.nil
  | m + 1, hm => by
    have ih := plc_so hf (n := n) (m := m) (by omega)
    rw [plc_s]
    split
    · rename_i e
      refine List.pairwise_append.mpr ⟨ih, List.pairwise_singleton _ _, fun p hp q hq => ?_⟩
      rw [List.mem_singleton.mp hq]
      have := plc_mem hp
      exact apN_mono hf (by omega) (by omega) this.2 e
    · exact ih
theorem apN_lt {row : List Int} {p n : Nat} (hf : figs row) (hp : p < row.length) (h : apN row p n = true) : (sayN 0 (row.take p) n).length < (sayN 0 row n).length := by
  have hd : figs (row.drop p) := fun v hv => hf v (List.mem_of_mem_drop hv)
  have pos := sayN0_pos hd (by simp; omega) n
  rw [apN_at h, List.length_append]; omega
theorem apN_new {row : List Int} {p n : Nat} (h : apN row p n = true) : (sayN 0 (row.take p) (n + 1)).length = (sR 0 (-1) 0 ((sayN 0 row n).take (sayN 0 (row.take p) n).length)).length := by
  show (sayL 0 (sayN 0 (row.take p) n)).length = _
  rw [sayL0, apN_at h]
  simp
/-- what is told of the places -/
def lpF (z : Int × Int) (p : Nat) : Int × Int := (max z.1 ((p : Int) - z.2), (p : Int))
theorem plc_apS (row : List Int) : ∀ m : Nat, (apS row m).1 = (plc row 6 m).length ∧ (apS row m).2.1 = (match plc row 6 m with | [] => -1 | p :: _ => (p : Int)) ∧ ((apS row m).2.2.2, (apS row m).2.2.1) = (plc row 6 m).foldl lpF (0, 0)
  | 0 => ⟨rfl, rfl, rfl⟩
  | m + 1 => by
    obtain ⟨h1, h2, h3⟩ := plc_apS row m
    rw [apS_s, plc_s]
    by_cases e : apN row (m + 1) 6 = true
    · rw [if_pos e, if_pos e, List.foldl_append, ← h3]
      refine ⟨?_, ?_, rfl⟩
      · rw [h1, List.length_append]; rfl
      · have hm : ∀ p ∈ plc row 6 m, 1 ≤ p := fun p hp => (plc_mem hp).1.1
        generalize plc row 6 m = ps at *
        match ps, h2, hm with
        | [], h2, _ => dsimp only at h2; dsimp only; rw [h2]; rfl
        | p :: ps, h2, hm =>
          have := hm p (List.mem_cons_self ..)
          dsimp only at h2
          show (if (apS row m).2.1 = -1 then ((m + 1 : Nat) : Int) else (apS row m).2.1) = (p : Int)
          rw [h2, if_neg (by omega)]
    · rw [if_neg e, if_neg e]
      exact ⟨h1, h2, h3⟩
