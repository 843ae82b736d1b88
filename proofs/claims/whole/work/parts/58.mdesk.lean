/-! MODEL, part 17: the desk's text -/
/-- m: 0 between clauses, 1 in the row, 2 in a word; cur: its figures so far -/
def pz (m : Nat) (cur row : List Int) (ws : List (List Int)) (i : Int) : List Int → Int × Int × List Int × List (List Int)
  | [] => if m = 0 then (0, -1, row, ws) else (1, i, row, ws)
  | x :: xs => if x = 32 then pz m cur row ws (i + 1) xs
    else if m = 0 then (if x = 114 then (if row = [] then pz 1 [] row ws (i + 1) xs else (3, i, row, ws)) else if x = 119 then (if row = [] then (1, i, row, ws) else if ws.length = 6 then (3, i, row, ws) else pz 2 [] row ws (i + 1) xs) else (1, i, row, ws))
    else if 48 ≤ x ∧ x ≤ 57 then (if cur.length = (if m = 1 then 60 else 8) then (2, i, row, ws) else pz m (cur ++ [x - 48]) row ws (i + 1) xs)
    else if x = 59 ∧ cur ≠ [] then (if m = 1 then pz 0 [] cur ws (i + 1) xs else pz 0 [] row (ws ++ [cur]) (i + 1) xs)
    else (1, i, row, ws)
def pzR (S : St) : Int × Int × List Int × List (List Int) := pz 0 [] [] [] 0 (sTx S)
def desked (S : St) (row : List Int) (ws : List (List Int)) : St := ([], -1, (if row = [] then 0 else 1), ws, (row, 0, []), [], (fun _ => none), sSd S, [], [])
def oDesk (S : St) : Int × St := if (pzR S).1 = 0 then ((pzR S).2.2.1.length, desked S (pzR S).2.2.1 (pzR S).2.2.2) else (-10 - (pzR S).1, ([], (pzR S).2.1, S.2.2))
theorem okWl.snoc {ws : List (List Int)} {x : List Int} (h : okWl ws) (hl : ws.length < 6) (h1 : 1 ≤ x.length) (h2 : x.length ≤ 8) (h3 : figs x) : okWl (ws ++ [x]) := by
  refine ⟨by simp; omega, fun y hy => ?_⟩
  rcases List.mem_append.mp hy with h' | h'
  · exact h.2 y h'
  · rw [List.mem_singleton.mp h']; exact ⟨h1, h2, h3⟩
theorem pz_ok : ∀ (xs : List Int) (m : Nat) (cur row : List Int) (ws : List (List Int)) (i : Int), m ≤ 2 → 0 ≤ i → row.length ≤ 60 → figs row → okWl ws → (m = 2 → ws.length < 6) → cur.length ≤ (if m = 1 then 60 else 8) → figs cur → ((pz m cur row ws i xs).1 = 0 ∨ (pz m cur row ws i xs).1 = 1 ∨ (pz m cur row ws i xs).1 = 2 ∨ (pz m cur row ws i xs).1 = 3) ∧ (-1 ≤ (pz m cur row ws i xs).2.1 ∧ (pz m cur row ws i xs).2.1 ≤ i + xs.length) ∧ (pz m cur row ws i xs).2.2.1.length ≤ 60 ∧ figs (pz m cur row ws i xs).2.2.1 ∧ okWl (pz m cur row ws i xs).2.2.2
  | [], m, cur, row, ws, i, hm, hi, hr, hf, hw, h2, hc, hcf => by
    show ((if m = 0 then ((0 : Int), (-1 : Int), row, ws) else (1, i, row, ws)).1 = 0 ∨ _) ∧ _
    unfold pz
    split
    · exact ⟨Or.inl rfl, ⟨by simp, by simp; omega⟩, hr, hf, hw⟩
    · exact ⟨Or.inr (Or.inl rfl), ⟨by simp; omega, by simp⟩, hr, hf, hw⟩
  | x :: xs, m, cur, row, ws, i, hm, hi, hr, hf, hw, h2, hc, hcf => by
    have ih := pz_ok xs
    have l1 : (((x :: xs).length : Nat) : Int) = xs.length + 1 := by simp
    rw [l1]
    unfold pz
    have st : ∀ f : Int, (f = 0 ∨ f = 1 ∨ f = 2 ∨ f = 3) → ((f, i, row, ws) : Int × Int × List Int × List (List Int)).1 = f → ((f = 0 ∨ f = 1 ∨ f = 2 ∨ f = 3) ∧ (-1 ≤ i ∧ i ≤ i + ((xs.length : Int) + 1)) ∧ row.length ≤ 60 ∧ figs row ∧ okWl ws) := fun f h _ => ⟨h, by omega, hr, hf, hw⟩
    have go : ∀ (m' : Nat) (cur' row' : List Int) (ws' : List (List Int)), m' ≤ 2 → row'.length ≤ 60 → figs row' → okWl ws' → (m' = 2 → ws'.length < 6) → cur'.length ≤ (if m' = 1 then 60 else 8) → figs cur' → ((pz m' cur' row' ws' (i + 1) xs).1 = 0 ∨ (pz m' cur' row' ws' (i + 1) xs).1 = 1 ∨ (pz m' cur' row' ws' (i + 1) xs).1 = 2 ∨ (pz m' cur' row' ws' (i + 1) xs).1 = 3) ∧ (-1 ≤ (pz m' cur' row' ws' (i + 1) xs).2.1 ∧ (pz m' cur' row' ws' (i + 1) xs).2.1 ≤ i + ((xs.length : Int) + 1)) ∧ (pz m' cur' row' ws' (i + 1) xs).2.2.1.length ≤ 60 ∧ figs (pz m' cur' row' ws' (i + 1) xs).2.2.1 ∧ okWl (pz m' cur' row' ws' (i + 1) xs).2.2.2 := by
      intro m' cur' row' ws' a1 a2 a3 a4 a5 a6 a7
      obtain ⟨b1, b2, b3⟩ := ih m' cur' row' ws' (i + 1) a1 (by omega) a2 a3 a4 a5 a6 a7
      exact ⟨b1, by omega, b3⟩
    split
    · exact go m cur row ws hm hr hf hw h2 hc hcf
    split
    · split
      · split
        · exact go 1 [] row ws (by omega) hr hf hw (fun z => absurd z (by omega)) (by simp) figs.nil
        · exact st 3 (by omega) rfl
      · split
        · split
          · exact st 1 (by omega) rfl
          · split
            · exact st 3 (by omega) rfl
            · exact go 2 [] row ws (by omega) hr hf hw (fun _ => by have := hw.1; omega) (by simp) figs.nil
        · exact st 1 (by omega) rfl
    split
    · rename_i hx
      by_cases hcl : cur.length = (if m = 1 then 60 else 8)
      · rw [if_pos hcl]; exact st 2 (by omega) rfl
      · rw [if_neg hcl]
        refine go m (cur ++ [x - 48]) row ws hm hr hf hw h2 ?_ (hcf.app (figs.one (by omega) (by omega)))
        rw [List.length_append]
        simp only [List.length_singleton]
        omega
    split
    · rename_i h59
      have hcl : 1 ≤ cur.length := by
        cases cur with
        | nil => exact absurd rfl h59.2
        | cons a b => simp
      split
      · rename_i h1
        rw [if_pos h1] at hc
        exact go 0 [] cur ws (by omega) hc hcf hw (fun z => absurd z (by omega)) (by simp) figs.nil
      · rename_i h1
        rw [if_neg h1] at hc
        exact go 0 [] row (ws ++ [cur]) (by omega) hr hf (hw.snoc (h2 (by omega)) hcl hc hcf) (fun z => absurd z (by omega)) (by simp) figs.nil
    · exact st 1 (by omega) rfl
theorem pzR_ok {S : St} (w : WF S) : ((pzR S).1 = 0 ∨ (pzR S).1 = 1 ∨ (pzR S).1 = 2 ∨ (pzR S).1 = 3) ∧ (-1 ≤ (pzR S).2.1 ∧ (pzR S).2.1 ≤ 240) ∧ (pzR S).2.2.1.length ≤ 60 ∧ figs (pzR S).2.2.1 ∧ okWl (pzR S).2.2.2 := by
  have h := w.1.1
  obtain ⟨h1, h2, h3⟩ := pz_ok (sTx S) 0 [] [] [] 0 (by omega) (by omega) (by simp) figs.nil ⟨by simp, fun x hx => by cases hx⟩ (fun z => absurd z (by omega)) (by simp) figs.nil
  exact ⟨h1, ⟨h2.1, by unfold pzR; omega⟩, h3⟩
theorem wf_desk {S : St} (w : WF S) : WF (oDesk S).2 := by
  obtain ⟨h1, h2, h3, h4, h5⟩ := pzR_ok w
  unfold oDesk
  split
  · refine ⟨⟨Nat.zero_le 240, (fun v hv => by cases hv)⟩, ⟨(by decide : (-1 : Int) ≤ -1), (by decide : (-1 : Int) ≤ 240)⟩, ?_, h5, ⟨h3, h4, ⟨(by decide : (0 : Int) ≤ 0), (by decide : (0 : Int) ≤ 90020)⟩, Nat.zero_le 20, (fun q hq => by cases hq)⟩, ⟨Nat.zero_le 30, (fun n hn => by cases hn)⟩, (fun i q hq => by cases hq), w.2.2.2.2.2.2.2.1, ⟨Nat.zero_le 6, (fun q hq => by cases hq)⟩, ⟨Nat.zero_le 20, (fun q hq => by cases hq)⟩⟩
    show (if (pzR S).2.2.1 = [] then (0 : Int) else 1) = 0 ∨ (if (pzR S).2.2.1 = [] then (0 : Int) else 1) = 1
    split
    · exact Or.inl rfl
    · exact Or.inr rfl
  · exact ⟨⟨Nat.zero_le 240, (fun v hv => by cases hv)⟩, h2, w.2.2⟩
