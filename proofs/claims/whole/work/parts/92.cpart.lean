/-! COMPONENT, part 22: a run said in parts -/
theorem sMl0_len (f : Int) : ∀ n : Nat, (sMl 0 f n).length = 2 * ((n + 8) / 9) := by
  intro n
  induction n using Nat.strongRecOn with
  | ind n ih =>
    by_cases h : n = 0
    · subst h; rw [sMl_0]; rfl
    · rw [sMl_s 0 f h, List.length_append, ih (n - 9) (by omega)]
      have : (emit 0 ((min n 9 : Nat) : Int) f).length = 2 := by
        unfold emit
        rw [if_neg (by decide), if_neg (fun z => absurd z.1 (by decide))]; rfl
      omega
theorem sMl_split (f : Int) (b : Nat) : ∀ a : Nat, sMl 0 f (9 * a + b) = sMl 0 f (9 * a) ++ sMl 0 f b
  | 0 => by rw [Nat.mul_zero, Nat.zero_add, sMl_0, List.nil_append]
  | a + 1 => by
    rw [sMl_s 0 f (show 9 * (a + 1) + b ≠ 0 by omega), sMl_s 0 f (show 9 * (a + 1) ≠ 0 by omega), show 9 * (a + 1) + b - 9 = 9 * a + b by omega, show 9 * (a + 1) - 9 = 9 * a by omega, sMl_split f b a, List.append_assoc, show min (9 * (a + 1) + b) 9 = 9 by omega, show min (9 * (a + 1)) 9 = 9 by omega]
