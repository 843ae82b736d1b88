/-! sets in a number -/
theorem ofInt_nI (n : Nat) : Int32.ofInt (n : Int) = nI n := Int32.ofInt_eq_ofNat
theorem sh_k : ∀ f : Nat, f < 10 → ((Int32.ofInt (f : Int) &&& 31).toBitVec.smod 32).toNat = f := by decide +kernel
theorem zShr_n {n f : Nat} (hn : n < 2 ^ 31) (hf : f < 10) : zShr n f = ((n / 2 ^ f : Nat) : Int) := by
  unfold zShr
  rw [ofInt_nI n, pk_shrN hn _ f (sh_k f hf), nI_toInt (Nat.lt_of_le_of_lt (Nat.div_le_self _ _) hn)]
theorem zAnd_1 {n : Nat} (hn : n < 2 ^ 31) : zAnd n 1 = ((n % 2 : Nat) : Int) := by
  unfold zAnd
  rw [ofInt_nI n, pk_andN (Nat.lt_of_lt_of_le hn (by decide)) 1 (by decide), nI_toInt (by omega)]
theorem z_bit {n f : Nat} (hn : n < 2 ^ 31) (hf : f < 10) : zAnd (zShr n f) 1 = if n.testBit f = true then 1 else 0 := by
  rw [zShr_n hn hf, zAnd_1 (Nat.lt_of_le_of_lt (Nat.div_le_self _ _) hn), Nat.testBit_eq_decide_div_mod_eq]
  have h := Nat.mod_two_eq_zero_or_one (n / 2 ^ f)
  rcases h with h | h <;> simp [h]
theorem zShl_1 {f : Nat} (hf : f < 10) : zShl 1 f = ((2 ^ f : Nat) : Int) := by
  unfold zShl
  have h1 : 2 ^ f ≤ 2 ^ 9 := Nat.pow_le_pow_right (by omega) (by omega)
  rw [show Int32.ofInt 1 = nI 1 from rfl, pk_shlN _ f (sh_k f hf) (by omega), Nat.one_mul, nI_toInt (by omega)]
theorem zOr_n {a b : Nat} (ha : a < 2 ^ 31) (hb : b < 2 ^ 31) : zOr a b = ((a ||| b : Nat) : Int) := by
  unfold zOr
  have hab : a ||| b < 2 ^ 31 := Nat.or_lt_two_pow ha hb
  have e : nI a ||| nI b = nI (a ||| b) := by
    apply Int32.toBitVec_inj.mp
    apply BitVec.eq_of_toNat_eq
    rw [Int32.toBitVec_or, BitVec.toNat_or, pk_tn (by omega), pk_tn (by omega), pk_tn (by omega)]
  rw [ofInt_nI, ofInt_nI, e, nI_toInt hab]
/-- the set of what a test says of 0 to n - 1 -/
def setOf (p : Nat → Bool) : Nat → Nat
  | 0 => 0
  | n + 1 => if p n = true then setOf p n ||| 2 ^ n else setOf p n
theorem setOf_lt (p : Nat → Bool) : ∀ n, setOf p n < 2 ^ n
  | 0 => by simp [setOf]
  | n + 1 => by
    have h := setOf_lt p n
    have h2 : 2 ^ n < 2 ^ (n + 1) := Nat.pow_lt_pow_right (by omega) (by omega)
    show (if p n = true then setOf p n ||| 2 ^ n else setOf p n) < 2 ^ (n + 1)
    split
    · exact Nat.or_lt_two_pow (Nat.lt_trans h h2) h2
    · exact Nat.lt_trans h h2
theorem setOf_bit (p : Nat → Bool) : ∀ n f, (setOf p n).testBit f = (decide (f < n) && p f)
  | 0, f => by simp [setOf]
  | n + 1, f => by
    have h := setOf_bit p n f
    show (if p n = true then setOf p n ||| 2 ^ n else setOf p n).testBit f = _
    split
    · rename_i hp
      rw [Nat.testBit_or, h, Nat.testBit_two_pow]
      by_cases c : n = f
      · subst c; simp [hp]
      · by_cases c2 : f < n
        · simp [c2, c, (by omega : f < n + 1)]
        · simp [c2, c]
          intro z; omega
    · rename_i hp
      rw [h]
      by_cases c : n = f
      · subst c; simp [hp]
      · by_cases c2 : f < n
        · simp [c2, (by omega : f < n + 1)]
        · simp [c2]
          intro z; omega
theorem m_has {n f : Nat} {h : Hp} {Q : Int → Hp → Prop} (hn : n < 2 ^ 31) (hf : f < 10) (k : Q (if n.testBit f = true then 1 else 0) h) : C_X12_has n f h Q := by
  apply G_X12_has
  unfold V_X12_has
  rw [z_bit hn hf]
  refine ⟨fun c => ?_, fun c => ?_⟩
  · by_cases ht : n.testBit f = true
    · rw [if_pos ht] at c; exact absurd rfl c
    · rw [if_neg ht] at k; exact k
  · by_cases ht : n.testBit f = true
    · rw [if_pos ht] at k; exact k
    · rw [if_neg ht] at c; exact absurd c (by decide)
