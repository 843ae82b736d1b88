/-! PURE, part 2: what readers say of a row -/
def emit (kind part fig : Int) : List Int := if kind = 1 then [fig, part] else if kind = 4 ∧ part ≤ 1 then [fig] else [part, fig]
def sMl (kind fig : Int) (n : Nat) : List Int := if h : n = 0 then [] else emit kind ((min n 9 : Nat) : Int) fig ++ sMl kind fig (n - 9)
termination_by n
decreasing_by omega
def sM (kind : Int) (many : Nat) (fig : Int) : List Int := sMl kind fig (if kind = 5 then min many 3 else many)
def sR (kind : Int) (last : Int) (many : Nat) : List Int → List Int
  | [] => sM kind many last
  | x :: xs => if x = last then sR kind last (many + 1) xs else sM kind many last ++ sR kind x 1 xs
def cnt (f : Int) : List Int → Nat
  | [] => 0
  | x :: xs => (if x = f then 1 else 0) + cnt f xs
def sayC (xs : List Int) : Nat → List Int
  | 0 => []
  | f + 1 => sayC xs f ++ sM 3 (cnt f xs) f
def sayL (kind : Int) (xs : List Int) : List Int := if kind = 3 then sayC xs 10 else sR kind (-1) 0 (if kind = 2 then xs.reverse else xs)
def figs (xs : List Int) : Prop := ∀ v ∈ xs, 0 ≤ v ∧ v ≤ 9
theorem figs.app {xs ys : List Int} (h1 : figs xs) (h2 : figs ys) : figs (xs ++ ys) := fun v hv => (List.mem_append.mp hv).elim (h1 v) (h2 v)
theorem figs.nil : figs [] := fun v hv => by cases hv
theorem figs.one {v : Int} (h0 : 0 ≤ v) (h1 : v ≤ 9) : figs [v] := fun w hw => by rw [List.mem_singleton.mp hw]; exact ⟨h0, h1⟩
theorem figs.left {xs ys : List Int} (h : figs (xs ++ ys)) : figs xs := fun v hv => h v (List.mem_append_left _ hv)
theorem figs.right {xs ys : List Int} (h : figs (xs ++ ys)) : figs ys := fun v hv => h v (List.mem_append_right _ hv)
theorem figs.at {xs : List Int} (h : figs xs) {k : Nat} (hk : k < xs.length) : 0 ≤ xs.getD k 0 ∧ xs.getD k 0 ≤ 9 := by
  rw [List.getD_eq_getElem?_getD, List.getElem?_eq_getElem hk]
  exact h _ (List.getElem_mem hk)
theorem sMl_0 (kind fig : Int) : sMl kind fig 0 = [] := by rw [sMl]; rfl
theorem sMl_s (kind fig : Int) {n : Nat} (h : n ≠ 0) : sMl kind fig n = emit kind ((min n 9 : Nat) : Int) fig ++ sMl kind fig (n - 9) := by rw [sMl, dif_neg h]
theorem emit_len (kind part fig : Int) : (emit kind part fig).length ≤ 2 := by
  unfold emit
  split
  · simp
  · split <;> simp
theorem emit_fig {kind part fig : Int} (h1 : 0 ≤ part ∧ part ≤ 9) (h2 : 0 ≤ fig ∧ fig ≤ 9) : figs (emit kind part fig) := by
  unfold emit
  split
  · exact (figs.one h2.1 h2.2).app (figs.one h1.1 h1.2)
  · split
    · exact figs.one h2.1 h2.2
    · exact (figs.one h1.1 h1.2).app (figs.one h2.1 h2.2)
theorem sMl_len (kind fig : Int) : ∀ n : Nat, (sMl kind fig n).length ≤ 2 * ((n + 8) / 9) := by
  intro n
  induction n using Nat.strongRecOn with
  | _ n ih =>
    by_cases h : n = 0
    · subst h; rw [sMl_0]; simp
    · rw [sMl_s _ _ h, List.length_append]
      have h1 := emit_len kind ((min n 9 : Nat) : Int) fig
      have h2 := ih (n - 9) (by omega)
      omega
theorem sMl_fig {kind fig : Int} (hf : 0 ≤ fig ∧ fig ≤ 9) : ∀ n : Nat, figs (sMl kind fig n) := by
  intro n
  induction n using Nat.strongRecOn with
  | _ n ih =>
    by_cases h : n = 0
    · subst h; rw [sMl_0]; exact figs.nil
    · rw [sMl_s _ _ h]
      exact (emit_fig ⟨by omega, by omega⟩ hf).app (ih (n - 9) (by omega))
theorem sM_0 (kind fig : Int) : sM kind 0 fig = [] := by
  unfold sM
  rw [show (if kind = 5 then min 0 3 else 0) = 0 by split <;> rfl, sMl_0]
theorem sM_len (kind fig : Int) (n : Nat) : (sM kind n fig).length ≤ 2 * ((n + 8) / 9) := by
  unfold sM
  have h := sMl_len kind fig (if kind = 5 then min n 3 else n)
  split at h
  · rw [if_pos (by assumption)]; omega
  · rw [if_neg (by assumption)]; omega
theorem sM_fig {kind fig : Int} (hf : 0 ≤ fig ∧ fig ≤ 9) (n : Nat) : figs (sM kind n fig) := sMl_fig hf _
theorem sR_len (kind : Int) : ∀ (xs : List Int) (last : Int) (many : Nat), (sR kind last many xs).length ≤ 2 * (many + xs.length)
  | [], last, many => by
    show (sM kind many last).length ≤ _
    have h := sM_len kind last many
    simp; omega
  | x :: xs, last, many => by
    show (if x = last then sR kind last (many + 1) xs else sM kind many last ++ sR kind x 1 xs).length ≤ _
    split
    · have h := sR_len kind xs last (many + 1)
      simp at h ⊢; omega
    · have h := sR_len kind xs x 1
      have h2 := sM_len kind last many
      simp at h ⊢; omega
theorem sR_fig (kind : Int) : ∀ (xs : List Int) (last : Int) (many : Nat), figs xs → (many = 0 ∨ (0 ≤ last ∧ last ≤ 9)) → figs (sR kind last many xs)
  | [], last, many, _, hm => by
    show figs (sM kind many last)
    rcases hm with rfl | hm
    · rw [sM_0]; exact figs.nil
    · exact sM_fig hm many
  | x :: xs, last, many, hx, hm => by
    have h1 := hx x List.mem_cons_self
    have h2 : figs xs := fun v hv => hx v (List.mem_cons_of_mem _ hv)
    show figs (if x = last then sR kind last (many + 1) xs else sM kind many last ++ sR kind x 1 xs)
    split
    · rename_i he
      exact sR_fig kind xs last (many + 1) h2 (Or.inr (by rw [← he]; exact h1))
    · refine figs.app ?_ (sR_fig kind xs x 1 h2 (Or.inr h1))
      rcases hm with rfl | hm
      · rw [sM_0]; exact figs.nil
      · exact sM_fig hm many
theorem cnt_le (f : Int) : ∀ xs : List Int, cnt f xs ≤ xs.length
  | [] => Nat.le_refl _
  | x :: xs => by
    have h := cnt_le f xs
    show (if x = f then 1 else 0) + cnt f xs ≤ xs.length + 1
    split <;> omega
theorem cnt_app (f : Int) : ∀ xs ys : List Int, cnt f (xs ++ ys) = cnt f xs + cnt f ys
  | [], ys => by simp [cnt]
  | x :: xs, ys => by
    show (if x = f then 1 else 0) + cnt f (xs ++ ys) = (if x = f then 1 else 0) + cnt f xs + cnt f ys
    rw [cnt_app f xs ys]; omega
def cntS (xs : List Int) : Nat → Nat
  | 0 => 0
  | f + 1 => cntS xs f + cnt f xs
theorem cntS_nil : ∀ n, cntS [] n = 0
  | 0 => rfl
  | n + 1 => by show cntS [] n + 0 = 0; rw [cntS_nil n]
theorem cntS_cons (x : Int) (xs : List Int) : ∀ n : Nat, cntS (x :: xs) n ≤ cntS xs n + (if 0 ≤ x ∧ x < n then 1 else 0)
  | 0 => by
    show 0 ≤ _
    omega
  | n + 1 => by
    have h := cntS_cons x xs n
    show cntS (x :: xs) n + ((if x = (n : Int) then 1 else 0) + cnt n xs) ≤ cntS xs n + cnt n xs + _
    by_cases h1 : x = (n : Int)
    · rw [if_pos h1, if_pos (by omega)]
      rw [if_neg (by omega)] at h
      omega
    · rw [if_neg h1]
      by_cases h2 : 0 ≤ x ∧ x < n
      · rw [if_pos h2] at h
        rw [if_pos (by omega)]
        omega
      · rw [if_neg h2] at h
        omega
theorem cntS_le : ∀ (xs : List Int) (n : Nat), cntS xs n ≤ xs.length
  | [], n => by rw [cntS_nil]; exact Nat.le_refl _
  | x :: xs, n => by
    have h := cntS_cons x xs n
    have h2 := cntS_le xs n
    show _ ≤ xs.length + 1
    split at h <;> omega
theorem sayC_len (xs : List Int) : ∀ n : Nat, 9 * (sayC xs n).length ≤ 2 * (cntS xs n + 8 * n)
  | 0 => by simp [sayC]
  | n + 1 => by
    have h := sayC_len xs n
    have h2 := sM_len 3 n (cnt n xs)
    show 9 * (sayC xs n ++ sM 3 (cnt n xs) n).length ≤ 2 * (cntS xs n + cnt n xs + 8 * (n + 1))
    rw [List.length_append]
    omega
theorem sayC_len2 (xs : List Int) : ∀ n : Nat, (sayC xs n).length ≤ 2 * cntS xs n
  | 0 => by simp [sayC]
  | n + 1 => by
    have h := sayC_len2 xs n
    have h2 := sM_len 3 n (cnt n xs)
    show (sayC xs n ++ sM 3 (cnt n xs) n).length ≤ 2 * (cntS xs n + cnt n xs)
    rw [List.length_append]
    omega
theorem sayC_fig (xs : List Int) : ∀ n : Nat, n ≤ 10 → figs (sayC xs n)
  | 0, _ => figs.nil
  | n + 1, h => (sayC_fig xs n (by omega)).app (sM_fig ⟨by omega, by omega⟩ _)
theorem sayL_len (kind : Int) (xs : List Int) : (sayL kind xs).length ≤ 2 * xs.length := by
  unfold sayL
  split
  · have h := sayC_len2 xs 10
    have h2 := cntS_le xs 10
    omega
  · have h := sR_len kind (if kind = 2 then xs.reverse else xs) (-1) 0
    split at h
    · rw [if_pos (by assumption)]; simp at h ⊢; exact h
    · rw [if_neg (by assumption)]; simp at h ⊢; exact h
theorem sayL_fig (kind : Int) {xs : List Int} (h : figs xs) : figs (sayL kind xs) := by
  unfold sayL
  split
  · exact sayC_fig xs 10 (Nat.le_refl _)
  · refine sR_fig kind _ _ _ ?_ (Or.inl rfl)
    split
    · exact fun v hv => h v (List.mem_reverse.mp hv)
    · exact h
/-- a counter's saying of at most 60 figures has at most 30 -/
theorem sMl3_len (fig : Int) : ∀ n : Nat, (sMl 3 fig n).length = 2 * ((n + 8) / 9) := by
  intro n
  induction n using Nat.strongRecOn with
  | _ n ih =>
    by_cases h : n = 0
    · subst h; rw [sMl_0]; simp
    · rw [sMl_s _ _ h, List.length_append]
      have h1 : (emit 3 ((min n 9 : Nat) : Int) fig).length = 2 := by simp [emit]
      have h2 := ih (n - 9) (by omega)
      omega
def pS (xs : List Int) : Nat → Nat
  | 0 => 0
  | f + 1 => pS xs f + (cnt f xs + 8) / 9
theorem sayC_pS (xs : List Int) : ∀ n : Nat, (sayC xs n).length = 2 * pS xs n
  | 0 => rfl
  | n + 1 => by
    have h := sayC_pS xs n
    have h2 : (sM 3 (cnt n xs) n).length = 2 * ((cnt n xs + 8) / 9) := sMl3_len _ _
    show (sayC xs n ++ sM 3 (cnt n xs) n).length = 2 * (pS xs n + (cnt n xs + 8) / 9)
    rw [List.length_append]
    omega
theorem pS_le (xs : List Int) : ∀ n : Nat, 9 * pS xs n ≤ cntS xs n + 8 * n
  | 0 => Nat.le_refl _
  | n + 1 => by
    have h := pS_le xs n
    show 9 * (pS xs n + (cnt n xs + 8) / 9) ≤ cntS xs n + cnt n xs + 8 * (n + 1)
    omega
theorem sayL_3 {xs : List Int} (h : xs.length ≤ 60) : (sayL 3 xs).length ≤ 30 := by
  unfold sayL
  rw [if_pos rfl, sayC_pS]
  have h1 := pS_le xs 10
  have h2 := cntS_le xs 10
  omega
-- run by run
theorem sR_start {kind x : Int} {xs : List Int} (h : x ≠ -1) : sR kind (-1) 0 (x :: xs) = sR kind x 1 xs := by
  show (if x = -1 then _ else sM kind 0 (-1) ++ sR kind x 1 xs) = _
  rw [if_neg h, sM_0]; rfl
theorem sR_same {kind x : Int} {n : Nat} {xs : List Int} : sR kind x n (x :: xs) = sR kind x (n + 1) xs := by
  show (if x = x then _ else _) = _
  rw [if_pos rfl]
theorem sR_other {kind x y : Int} {n : Nat} {xs : List Int} (h : y ≠ x) : sR kind x n (y :: xs) = sM kind n x ++ sR kind y 1 xs := by
  show (if y = x then _ else _) = _
  rw [if_neg h]
theorem sR_stop {kind x : Int} {n : Nat} {xs : List Int} (h : ∀ y, xs.head? = some y → y ≠ x ∧ y ≠ -1) : sR kind x n xs = sM kind n x ++ sR kind (-1) 0 xs := by
  cases xs with
  | nil => show sM kind n x = sM kind n x ++ sM kind 0 (-1); rw [sM_0]; simp
  | cons y ys =>
    obtain ⟨h1, h2⟩ := h y rfl
    rw [sR_other h1, sR_start h2]
/-- n readings -/
def sayN (kind : Int) (xs : List Int) : Nat → List Int
  | 0 => xs
  | n + 1 => sayL kind (sayN kind xs n)
theorem sayN_fig (kind : Int) {xs : List Int} (h : figs xs) : ∀ n, figs (sayN kind xs n)
  | 0 => h
  | n + 1 => sayL_fig kind (sayN_fig kind h n)
theorem sayN_len (kind : Int) (xs : List Int) : ∀ n, (sayN kind xs n).length ≤ 2 ^ n * xs.length
  | 0 => by simp [sayN]
  | n + 1 => by
    have h := sayN_len kind xs n
    have h2 := sayL_len kind (sayN kind xs n)
    show (sayL kind (sayN kind xs n)).length ≤ _
    rw [Nat.pow_succ, Nat.mul_comm (2 ^ n) 2, Nat.mul_assoc]
    omega
theorem sayN_60 (kind : Int) {xs : List Int} (h : xs.length ≤ 60) {n : Nat} (hn : n ≤ 8) : (sayN kind xs n).length ≤ 15360 := by
  have h1 := sayN_len kind xs n
  have h2 : 2 ^ n ≤ 2 ^ 8 := Nat.pow_le_pow_right (by omega) hn
  have h3 : 2 ^ n * xs.length ≤ 2 ^ 8 * 60 := Nat.mul_le_mul h2 h
  omega
