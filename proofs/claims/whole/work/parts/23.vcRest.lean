/-! printed by wip/gen/gen.py: Rest -/
theorem d_X4_init_0 : decode i_X4_init.2.1 0 = .ok (.aload_n 0, 1) := by decide +kernel
theorem d_X4_init_1 : decode i_X4_init.2.1 1 = .ok (.invokespecial 3, 3) := by decide +kernel
theorem d_X4_init_4 : decode i_X4_init.2.1 4 = .ok (.aload_n 0, 1) := by decide +kernel
theorem d_X4_init_5 : decode i_X4_init.2.1 5 = .ok (.iconst 2, 1) := by decide +kernel
theorem d_X4_init_6 : decode i_X4_init.2.1 6 = .ok (.anewarray 9, 3) := by decide +kernel
theorem d_X4_init_9 : decode i_X4_init.2.1 9 = .ok (.putfield 11, 3) := by decide +kernel
theorem d_X4_init_12 : decode i_X4_init.2.1 12 = .ok (.aload_n 0, 1) := by decide +kernel
theorem d_X4_init_13 : decode i_X4_init.2.1 13 = .ok (.iconst 2, 1) := by decide +kernel
theorem d_X4_init_14 : decode i_X4_init.2.1 14 = .ok (.newarray .int, 2) := by decide +kernel
theorem d_X4_init_16 : decode i_X4_init.2.1 16 = .ok (.putfield 17, 3) := by decide +kernel
theorem d_X4_init_19 : decode i_X4_init.2.1 19 = .ok (.aload_n 0, 1) := by decide +kernel
theorem d_X4_init_20 : decode i_X4_init.2.1 20 = .ok (.iconst 2, 1) := by decide +kernel
theorem d_X4_init_21 : decode i_X4_init.2.1 21 = .ok (.newarray .boolean, 2) := by decide +kernel
theorem d_X4_init_23 : decode i_X4_init.2.1 23 = .ok (.putfield 21, 3) := by decide +kernel
theorem d_X4_init_26 : decode i_X4_init.2.1 26 = .ok (.iconst 0, 1) := by decide +kernel
theorem d_X4_init_27 : decode i_X4_init.2.1 27 = .ok (.istore_n 1, 1) := by decide +kernel
theorem d_X4_init_28 : decode i_X4_init.2.1 28 = .ok (.iload_n 1, 1) := by decide +kernel
theorem d_X4_init_29 : decode i_X4_init.2.1 29 = .ok (.iconst 2, 1) := by decide +kernel
theorem d_X4_init_30 : decode i_X4_init.2.1 30 = .ok (.if_icmp .ge 22, 3) := by decide +kernel
theorem d_X4_init_33 : decode i_X4_init.2.1 33 = .ok (.aload_n 0, 1) := by decide +kernel
theorem d_X4_init_34 : decode i_X4_init.2.1 34 = .ok (.getfield 11, 3) := by decide +kernel
theorem d_X4_init_37 : decode i_X4_init.2.1 37 = .ok (.iload_n 1, 1) := by decide +kernel
theorem d_X4_init_38 : decode i_X4_init.2.1 38 = .ok (.new 9, 3) := by decide +kernel
theorem d_X4_init_41 : decode i_X4_init.2.1 41 = .ok (.dup, 1) := by decide +kernel
theorem d_X4_init_42 : decode i_X4_init.2.1 42 = .ok (.invokespecial 25, 3) := by decide +kernel
theorem d_X4_init_45 : decode i_X4_init.2.1 45 = .ok (.aastore, 1) := by decide +kernel
theorem d_X4_init_46 : decode i_X4_init.2.1 46 = .ok (.iinc 1 1, 3) := by decide +kernel
theorem d_X4_init_49 : decode i_X4_init.2.1 49 = .ok (.goto (-21), 3) := by decide +kernel
theorem d_X4_init_52 : decode i_X4_init.2.1 52 = .ok (.return_, 1) := by decide +kernel
def BLp_X4_init_28 (x0 : Nat) (P28 : Int → Hp → Prop) (x1 : Int) (h : Hp) (Q : Hp → Prop) : Prop :=
  (2 ≤ x1 → (Q h)) ∧ (¬ 2 ≤ x1 → (hK h x0 = 4 ∧ (∀ n1 : Nat, n1 = hN h → ∀ h2 : Hp, h2 = al h 7 0 5 → (hK h2 n1 = 7 ∧ C_X8_init n1  h2 (fun h3 => ((hK h3 (hR h x0 0) = 17 ∧ (0 : Int) ≤ x1 ∧ x1 < hL h3 (hR h x0 0) ∧ hK h3 n1 = 7) ∧ ∀ h4 : Hp, h4 = wR h3 (hR h x0 0) x1 n1 → (((-2147483648 : Int) ≤ x1 + 1 ∧ x1 + 1 ≤ (2147483647 : Int)) ∧ (P28 (x1 + 1) h4))))))))
def Lp_X4_init_28 (x0 : Nat) (x1 : Int) (h : Hp) (Q : Hp → Prop) : Prop := ∀ P28 : Int → Hp → Prop, (∀ (x1 : Int) (h : Hp), BLp_X4_init_28 x0 P28 x1 h Q → P28 x1 h) → P28 x1 h
theorem Lp_X4_init_28_ind {x0 : Nat} {Q : Hp → Prop} (I : Int → Hp → Prop) (μ : Int → Hp → Nat) (hs : ∀ (P28 : Int → Hp → Prop) (x1 : Int) (h : Hp), I x1 h → (∀ (x1' : Int) (h' : Hp), I x1' h' → μ x1' h' < μ x1 h → P28 x1' h') → BLp_X4_init_28 x0 P28 x1 h Q) : ∀ (x1 : Int) (h : Hp), I x1 h → Lp_X4_init_28 x0 x1 h Q := by
  intro x1 h hI P28 hP
  have key : ∀ (n : Nat) (x1 : Int) (h : Hp), I x1 h → μ x1 h < n → P28 x1 h := by
    intro n
    induction n with
    | zero => intro x1 h _ hl; exact absurd hl (Nat.not_lt_zero _)
    | succ n ih => intro x1 h hi hl; exact hP x1 h (hs P28 x1 h hi (fun x1 h' hi' hl' => ih x1 h' hi' (by omega)))
  exact key _ x1 h hI (Nat.lt_succ_self _)
theorem GLp_X4_init_28 (x0 : Nat) (x1 : Int) (h : Hp) (Q : Hp → Prop) (hV : Lp_X4_init_28 x0 x1 h Q) : Go i_X4_init 28 [(0, .inr (.inr x0)), (1, .inl x1)] [] h (qV Q) := by
  refine hV (fun x1 h => Go i_X4_init 28 [(0, .inr (.inr x0)), (1, .inl x1)] [] h (qV Q)) (fun x1 h hV => ?_)
  unfold BLp_X4_init_28 at hV
  have hP28 : ∀ (x1 : Int) (h : Hp), Go i_X4_init 28 [(0, .inr (.inr x0)), (1, .inl x1)] [] h (qV Q) → Go i_X4_init 28 [(0, .inr (.inr x0)), (1, .inl x1)] [] h (qV Q) := fun _ h z => z
  refine s_iload_n d_X4_init_28 rfl (ma 1 rfl) ?_
  refine s_iconst d_X4_init_29 (okn rfl) ?_
  refine s_icmp_ge (tgt := 52) d_X4_init_30 (by decide) (fun c => ?_) (fun c => ?_)
  · have hV := hV.1 c
    exact s_vret d_X4_init_52 rfl ⟨rfl, hV⟩
  · have hV := hV.2 c
    refine s_aload_n d_X4_init_33 rfl (ma 0 rfl) ?_
    obtain ⟨o, hV⟩ := hV
    refine f_RX4_11g rfl d_X4_init_34 o ?_
    refine s_iload_n d_X4_init_37 rfl (ma 1 rfl) ?_
    refine s_new (ci := 7) d_X4_init_38 rfl q_RX4_9 ?_
    refine s_nmA (fun n1 en1 => ?_)
    refine s_nmH (fun h2 eh2 => ?_)
    have hV := hV n1 en1 h2 eh2
    refine s_dup d_X4_init_41 rfl ?_
    obtain ⟨o, hV⟩ := hV
    refine v_RX4_25 rfl (Nat.le_of_ble_eq_true rfl) d_X4_init_42 o (Nat.le_of_ble_eq_true rfl) hV (fun h3 hV => ?_)
    obtain ⟨o, hV⟩ := hV
    refine s_aast d_X4_init_45 (Or.inr ⟨o.1, o.2.2.2⟩) o.2.1 o.2.2.1 ?_
    refine s_nmH (fun h4 eh4 => ?_)
    have hV := hV h4 eh4
    obtain ⟨o, hV⟩ := hV
    refine s_iinc (lv' := [(1, .inl (x1 + 1)), (0, .inr (.inr x0))]) d_X4_init_46 (ma 1 rfl) o (Nat.le_of_ble_eq_true rfl) rfl ?_
    refine s_goto (tgt := 28) d_X4_init_49 (by decide) ?_
    refine s_pick (lv' := [(0, .inr (.inr x0)), (1, .inl (x1 + 1))]) [1, 0] rfl ?_
    exact hP28 _ _ hV
def V_X4_init (x0 : Nat) (h : Hp) (Q : Hp → Prop) : Prop :=
  hK h x0 = 4 ∧ (((0 : Int) ≤ 2 ∧ 2 ≤ (100000000 : Int)) ∧ ∀ n1 : Nat, n1 = hN h → ∀ h2 : Hp, h2 = al h 17 2 (Int.toNat 2) → (hK h2 x0 = 4 ∧ ∀ h3 : Hp, h3 = wR h2 x0 0 n1 → (((0 : Int) ≤ 2 ∧ 2 ≤ (100000000 : Int)) ∧ ∀ n4 : Nat, n4 = hN h3 → ∀ h5 : Hp, h5 = al h3 12 2 (Int.toNat 2) → (hK h5 x0 = 4 ∧ ∀ h6 : Hp, h6 = wR h5 x0 1 n4 → (((0 : Int) ≤ 2 ∧ 2 ≤ (100000000 : Int)) ∧ ∀ n7 : Nat, n7 = hN h6 → ∀ h8 : Hp, h8 = al h6 15 2 (Int.toNat 2) → (hK h8 x0 = 4 ∧ ∀ h9 : Hp, h9 = wR h8 x0 2 n7 → (Lp_X4_init_28 x0 0 h9 Q)))))))
theorem G_X4_init {x0 : Nat} (h : Hp) (Q : Hp → Prop) (hV : V_X4_init x0 h Q) : C_X4_init x0 h Q := by
  unfold V_X4_init at hV
  show Go i_X4_init 0 [(0, .inr (.inr x0))] [] h (qV Q)
  refine s_aload_n d_X4_init_0 rfl (ma 0 rfl) ?_
  obtain ⟨o, hV⟩ := hV
  refine s_objInit d_X4_init_1 ob_RX4_3 (Nat.le_of_ble_eq_true rfl) rfl (by rw [o]; decide) ?_
  refine s_aload_n d_X4_init_4 rfl (ma 0 rfl) ?_
  refine s_iconst d_X4_init_5 (okn rfl) ?_
  obtain ⟨o, hV⟩ := hV
  refine s_newS d_X4_init_6 q_RX4_9 o.1 o.2 ?_
  refine s_nmA (fun n1 en1 => ?_)
  refine s_nmH (fun h2 eh2 => ?_)
  have hV := hV n1 en1 h2 eh2
  obtain ⟨o, hV⟩ := hV
  refine f_RX4_11p rfl rfl d_X4_init_9 o (fun h3 eh3 => ?_)
  have hV := hV h3 eh3
  refine s_aload_n d_X4_init_12 rfl (ma 0 rfl) ?_
  refine s_iconst d_X4_init_13 (okn rfl) ?_
  obtain ⟨o, hV⟩ := hV
  refine s_newi d_X4_init_14 ac_int o.1 o.2 ?_
  refine s_nmA (fun n4 en4 => ?_)
  refine s_nmH (fun h5 eh5 => ?_)
  have hV := hV n4 en4 h5 eh5
  obtain ⟨o, hV⟩ := hV
  refine f_RX4_17p rfl rfl d_X4_init_16 o (fun h6 eh6 => ?_)
  have hV := hV h6 eh6
  refine s_aload_n d_X4_init_19 rfl (ma 0 rfl) ?_
  refine s_iconst d_X4_init_20 (okn rfl) ?_
  obtain ⟨o, hV⟩ := hV
  refine s_newz d_X4_init_21 ac_boolean o.1 o.2 ?_
  refine s_nmA (fun n7 en7 => ?_)
  refine s_nmH (fun h8 eh8 => ?_)
  have hV := hV n7 en7 h8 eh8
  obtain ⟨o, hV⟩ := hV
  refine f_RX4_21p rfl rfl d_X4_init_23 o (fun h9 eh9 => ?_)
  have hV := hV h9 eh9
  refine s_iconst d_X4_init_26 (okn rfl) ?_
  refine s_istore_n (lv' := [(1, .inl 0), (0, .inr (.inr x0))]) d_X4_init_27 rfl (Nat.le_of_ble_eq_true rfl) rfl ?_
  refine s_pick (lv' := [(0, .inr (.inr x0)), (1, .inl 0)]) [1, 0] rfl ?_
  exact GLp_X4_init_28 _ _ _ _ hV

theorem d_X4_clear_0 : decode i_X4_clear.2.1 0 = .ok (.iconst 0, 1) := by decide +kernel
theorem d_X4_clear_1 : decode i_X4_clear.2.1 1 = .ok (.istore_n 1, 1) := by decide +kernel
theorem d_X4_clear_2 : decode i_X4_clear.2.1 2 = .ok (.iload_n 1, 1) := by decide +kernel
theorem d_X4_clear_3 : decode i_X4_clear.2.1 3 = .ok (.iconst 2, 1) := by decide +kernel
theorem d_X4_clear_4 : decode i_X4_clear.2.1 4 = .ok (.if_icmp .ge 16, 3) := by decide +kernel
theorem d_X4_clear_7 : decode i_X4_clear.2.1 7 = .ok (.aload_n 0, 1) := by decide +kernel
theorem d_X4_clear_8 : decode i_X4_clear.2.1 8 = .ok (.getfield 21, 3) := by decide +kernel
theorem d_X4_clear_11 : decode i_X4_clear.2.1 11 = .ok (.iload_n 1, 1) := by decide +kernel
theorem d_X4_clear_12 : decode i_X4_clear.2.1 12 = .ok (.iconst 0, 1) := by decide +kernel
theorem d_X4_clear_13 : decode i_X4_clear.2.1 13 = .ok (.bastore, 1) := by decide +kernel
theorem d_X4_clear_14 : decode i_X4_clear.2.1 14 = .ok (.iinc 1 1, 3) := by decide +kernel
theorem d_X4_clear_17 : decode i_X4_clear.2.1 17 = .ok (.goto (-15), 3) := by decide +kernel
theorem d_X4_clear_20 : decode i_X4_clear.2.1 20 = .ok (.return_, 1) := by decide +kernel
def BLp_X4_clear_2 (x0 : Nat) (P2 : Int → Hp → Prop) (x1 : Int) (h : Hp) (Q : Hp → Prop) : Prop :=
  (2 ≤ x1 → (Q h)) ∧ (¬ 2 ≤ x1 → (hK h x0 = 4 ∧ ((hK h (hR h x0 2) = 15 ∧ (0 : Int) ≤ x1 ∧ x1 < hL h (hR h x0 2) ∧ ((0 : Int) = 0 ∨ (0 : Int) = 1)) ∧ ∀ h1 : Hp, h1 = wI h (hR h x0 2) x1 0 → (((-2147483648 : Int) ≤ x1 + 1 ∧ x1 + 1 ≤ (2147483647 : Int)) ∧ (P2 (x1 + 1) h1)))))
def Lp_X4_clear_2 (x0 : Nat) (x1 : Int) (h : Hp) (Q : Hp → Prop) : Prop := ∀ P2 : Int → Hp → Prop, (∀ (x1 : Int) (h : Hp), BLp_X4_clear_2 x0 P2 x1 h Q → P2 x1 h) → P2 x1 h
theorem Lp_X4_clear_2_ind {x0 : Nat} {Q : Hp → Prop} (I : Int → Hp → Prop) (μ : Int → Hp → Nat) (hs : ∀ (P2 : Int → Hp → Prop) (x1 : Int) (h : Hp), I x1 h → (∀ (x1' : Int) (h' : Hp), I x1' h' → μ x1' h' < μ x1 h → P2 x1' h') → BLp_X4_clear_2 x0 P2 x1 h Q) : ∀ (x1 : Int) (h : Hp), I x1 h → Lp_X4_clear_2 x0 x1 h Q := by
  intro x1 h hI P2 hP
  have key : ∀ (n : Nat) (x1 : Int) (h : Hp), I x1 h → μ x1 h < n → P2 x1 h := by
    intro n
    induction n with
    | zero => intro x1 h _ hl; exact absurd hl (Nat.not_lt_zero _)
    | succ n ih => intro x1 h hi hl; exact hP x1 h (hs P2 x1 h hi (fun x1 h' hi' hl' => ih x1 h' hi' (by omega)))
  exact key _ x1 h hI (Nat.lt_succ_self _)
theorem GLp_X4_clear_2 (x0 : Nat) (x1 : Int) (h : Hp) (Q : Hp → Prop) (hV : Lp_X4_clear_2 x0 x1 h Q) : Go i_X4_clear 2 [(0, .inr (.inr x0)), (1, .inl x1)] [] h (qV Q) := by
  refine hV (fun x1 h => Go i_X4_clear 2 [(0, .inr (.inr x0)), (1, .inl x1)] [] h (qV Q)) (fun x1 h hV => ?_)
  unfold BLp_X4_clear_2 at hV
  have hP2 : ∀ (x1 : Int) (h : Hp), Go i_X4_clear 2 [(0, .inr (.inr x0)), (1, .inl x1)] [] h (qV Q) → Go i_X4_clear 2 [(0, .inr (.inr x0)), (1, .inl x1)] [] h (qV Q) := fun _ h z => z
  refine s_iload_n d_X4_clear_2 rfl (ma 1 rfl) ?_
  refine s_iconst d_X4_clear_3 (okn rfl) ?_
  refine s_icmp_ge (tgt := 20) d_X4_clear_4 (by decide) (fun c => ?_) (fun c => ?_)
  · have hV := hV.1 c
    exact s_vret d_X4_clear_20 rfl ⟨rfl, hV⟩
  · have hV := hV.2 c
    refine s_aload_n d_X4_clear_7 rfl (ma 0 rfl) ?_
    obtain ⟨o, hV⟩ := hV
    refine f_RX4_21g rfl d_X4_clear_8 o ?_
    refine s_iload_n d_X4_clear_11 rfl (ma 1 rfl) ?_
    refine s_iconst d_X4_clear_12 (okn rfl) ?_
    obtain ⟨o, hV⟩ := hV
    refine s_zast d_X4_clear_13 o.1 o.2.1 o.2.2.1 o.2.2.2 ?_
    refine s_nmH (fun h1 eh1 => ?_)
    have hV := hV h1 eh1
    obtain ⟨o, hV⟩ := hV
    refine s_iinc (lv' := [(1, .inl (x1 + 1)), (0, .inr (.inr x0))]) d_X4_clear_14 (ma 1 rfl) o (Nat.le_of_ble_eq_true rfl) rfl ?_
    refine s_goto (tgt := 2) d_X4_clear_17 (by decide) ?_
    refine s_pick (lv' := [(0, .inr (.inr x0)), (1, .inl (x1 + 1))]) [1, 0] rfl ?_
    exact hP2 _ _ hV
def V_X4_clear (x0 : Nat) (h : Hp) (Q : Hp → Prop) : Prop :=
  Lp_X4_clear_2 x0 0 h Q
theorem G_X4_clear {x0 : Nat} (h : Hp) (Q : Hp → Prop) (hV : V_X4_clear x0 h Q) : C_X4_clear x0 h Q := by
  unfold V_X4_clear at hV
  show Go i_X4_clear 0 [(0, .inr (.inr x0))] [] h (qV Q)
  refine s_iconst d_X4_clear_0 (okn rfl) ?_
  refine s_istore_n (lv' := [(1, .inl 0), (0, .inr (.inr x0))]) d_X4_clear_1 rfl (Nat.le_of_ble_eq_true rfl) rfl ?_
  refine s_pick (lv' := [(0, .inr (.inr x0)), (1, .inl 0)]) [1, 0] rfl ?_
  exact GLp_X4_clear_2 _ _ _ _ hV

theorem d_X4_has_0 : decode i_X4_has.2.1 0 = .ok (.iload_n 1, 1) := by decide +kernel
theorem d_X4_has_1 : decode i_X4_has.2.1 1 = .ok (.ifCond .lt 12, 3) := by decide +kernel
theorem d_X4_has_4 : decode i_X4_has.2.1 4 = .ok (.iload_n 1, 1) := by decide +kernel
theorem d_X4_has_5 : decode i_X4_has.2.1 5 = .ok (.iconst 2, 1) := by decide +kernel
theorem d_X4_has_6 : decode i_X4_has.2.1 6 = .ok (.if_icmp .ge 7, 3) := by decide +kernel
theorem d_X4_has_9 : decode i_X4_has.2.1 9 = .ok (.iconst 1, 1) := by decide +kernel
theorem d_X4_has_10 : decode i_X4_has.2.1 10 = .ok (.goto 4, 3) := by decide +kernel
theorem d_X4_has_13 : decode i_X4_has.2.1 13 = .ok (.iconst 0, 1) := by decide +kernel
theorem d_X4_has_14 : decode i_X4_has.2.1 14 = .ok (.ireturn, 1) := by decide +kernel
def V_X4_has (x0 : Nat) (x1 : Int) (h : Hp) (Q : Int → Hp → Prop) : Prop :=
  (x1 < 0 → (Q 0 h)) ∧ (¬ x1 < 0 → ((2 ≤ x1 → (Q 0 h)) ∧ (¬ 2 ≤ x1 → (Q 1 h))))
theorem G_X4_has {x0 : Nat} {x1 : Int} (h : Hp) (Q : Int → Hp → Prop) (hV : V_X4_has x0 x1 h Q) : C_X4_has x0 x1 h Q := by
  unfold V_X4_has at hV
  show Go i_X4_has 0 [(0, .inr (.inr x0)), (1, .inl x1)] [] h (qI Q)
  refine s_iload_n d_X4_has_0 rfl (ma 1 rfl) ?_
  refine s_if_lt (tgt := 13) d_X4_has_1 (by decide) (fun c => ?_) (fun c => ?_)
  · have hV := hV.1 c
    refine s_iconst d_X4_has_13 (okn rfl) ?_
    exact s_iret d_X4_has_14 rfl (nar_z (Or.inl rfl)) ⟨_, rfl, hV⟩
  · have hV := hV.2 c
    refine s_iload_n d_X4_has_4 rfl (ma 1 rfl) ?_
    refine s_iconst d_X4_has_5 (okn rfl) ?_
    refine s_icmp_ge (tgt := 13) d_X4_has_6 (by decide) (fun c => ?_) (fun c => ?_)
    · have hV := hV.1 c
      refine s_iconst d_X4_has_13 (okn rfl) ?_
      exact s_iret d_X4_has_14 rfl (nar_z (Or.inl rfl)) ⟨_, rfl, hV⟩
    · have hV := hV.2 c
      refine s_iconst d_X4_has_9 (okn rfl) ?_
      refine s_goto (tgt := 14) d_X4_has_10 (by decide) ?_
      exact s_iret d_X4_has_14 rfl (nar_z (Or.inr rfl)) ⟨_, rfl, hV⟩

theorem d_X4_isKept_0 : decode i_X4_isKept.2.1 0 = .ok (.aload_n 0, 1) := by decide +kernel
theorem d_X4_isKept_1 : decode i_X4_isKept.2.1 1 = .ok (.iload_n 1, 1) := by decide +kernel
theorem d_X4_isKept_2 : decode i_X4_isKept.2.1 2 = .ok (.invokevirtual 26, 3) := by decide +kernel
theorem d_X4_isKept_5 : decode i_X4_isKept.2.1 5 = .ok (.ifCond .eq 16, 3) := by decide +kernel
theorem d_X4_isKept_8 : decode i_X4_isKept.2.1 8 = .ok (.aload_n 0, 1) := by decide +kernel
theorem d_X4_isKept_9 : decode i_X4_isKept.2.1 9 = .ok (.getfield 21, 3) := by decide +kernel
theorem d_X4_isKept_12 : decode i_X4_isKept.2.1 12 = .ok (.iload_n 1, 1) := by decide +kernel
theorem d_X4_isKept_13 : decode i_X4_isKept.2.1 13 = .ok (.baload, 1) := by decide +kernel
theorem d_X4_isKept_14 : decode i_X4_isKept.2.1 14 = .ok (.ifCond .eq 7, 3) := by decide +kernel
theorem d_X4_isKept_17 : decode i_X4_isKept.2.1 17 = .ok (.iconst 1, 1) := by decide +kernel
theorem d_X4_isKept_18 : decode i_X4_isKept.2.1 18 = .ok (.goto 4, 3) := by decide +kernel
theorem d_X4_isKept_21 : decode i_X4_isKept.2.1 21 = .ok (.iconst 0, 1) := by decide +kernel
theorem d_X4_isKept_22 : decode i_X4_isKept.2.1 22 = .ok (.ireturn, 1) := by decide +kernel
def V_X4_isKept (x0 : Nat) (x1 : Int) (h : Hp) (Q : Int → Hp → Prop) : Prop :=
  hK h x0 = 4 ∧ C_X4_has x0 x1 h (fun r2 h1 => ((r2 = 0 → (Q 0 h1)) ∧ (¬ r2 = 0 → (hK h1 x0 = 4 ∧ ((hK h1 (hR h1 x0 2) = 15 ∧ (0 : Int) ≤ x1 ∧ x1 < hL h1 (hR h1 x0 2)) ∧ ((hI h1 (hR h1 x0 2) x1 = 0 → (Q 0 h1)) ∧ (¬ hI h1 (hR h1 x0 2) x1 = 0 → (Q 1 h1))))))))
theorem G_X4_isKept {x0 : Nat} {x1 : Int} (h : Hp) (Q : Int → Hp → Prop) (hV : V_X4_isKept x0 x1 h Q) : C_X4_isKept x0 x1 h Q := by
  unfold V_X4_isKept at hV
  show Go i_X4_isKept 0 [(0, .inr (.inr x0)), (1, .inl x1)] [] h (qI Q)
  refine s_aload_n d_X4_isKept_0 rfl (ma 0 rfl) ?_
  refine s_iload_n d_X4_isKept_1 rfl (ma 1 rfl) ?_
  obtain ⟨o, hV⟩ := hV
  refine v_RX4_26 rfl (Nat.le_of_ble_eq_true rfl) d_X4_isKept_2 o (Nat.le_of_ble_eq_true rfl) hV (fun r2 h1 hV => ?_)
  refine s_if_eq (tgt := 21) d_X4_isKept_5 (by decide) (fun c => ?_) (fun c => ?_)
  · have hV := hV.1 c
    refine s_iconst d_X4_isKept_21 (okn rfl) ?_
    exact s_iret d_X4_isKept_22 rfl (nar_z (Or.inl rfl)) ⟨_, rfl, hV⟩
  · have hV := hV.2 c
    refine s_aload_n d_X4_isKept_8 rfl (ma 0 rfl) ?_
    obtain ⟨o, hV⟩ := hV
    refine f_RX4_21g rfl d_X4_isKept_9 o ?_
    refine s_iload_n d_X4_isKept_12 rfl (ma 1 rfl) ?_
    obtain ⟨o, hV⟩ := hV
    refine s_zald d_X4_isKept_13 o.1 o.2.1 o.2.2 ?_
    refine s_if_eq (tgt := 21) d_X4_isKept_14 (by decide) (fun c => ?_) (fun c => ?_)
    · have hV := hV.1 c
      refine s_iconst d_X4_isKept_21 (okn rfl) ?_
      exact s_iret d_X4_isKept_22 rfl (nar_z (Or.inl rfl)) ⟨_, rfl, hV⟩
    · have hV := hV.2 c
      refine s_iconst d_X4_isKept_17 (okn rfl) ?_
      refine s_goto (tgt := 22) d_X4_isKept_18 (by decide) ?_
      exact s_iret d_X4_isKept_22 rfl (nar_z (Or.inr rfl)) ⟨_, rfl, hV⟩

theorem d_X4_take_0 : decode i_X4_take.2.1 0 = .ok (.aload_n 0, 1) := by decide +kernel
theorem d_X4_take_1 : decode i_X4_take.2.1 1 = .ok (.iload_n 1, 1) := by decide +kernel
theorem d_X4_take_2 : decode i_X4_take.2.1 2 = .ok (.invokevirtual 26, 3) := by decide +kernel
theorem d_X4_take_5 : decode i_X4_take.2.1 5 = .ok (.ifCond .eq 27, 3) := by decide +kernel
theorem d_X4_take_8 : decode i_X4_take.2.1 8 = .ok (.aload_n 0, 1) := by decide +kernel
theorem d_X4_take_9 : decode i_X4_take.2.1 9 = .ok (.getfield 11, 3) := by decide +kernel
theorem d_X4_take_12 : decode i_X4_take.2.1 12 = .ok (.iload_n 1, 1) := by decide +kernel
theorem d_X4_take_13 : decode i_X4_take.2.1 13 = .ok (.aaload, 1) := by decide +kernel
theorem d_X4_take_14 : decode i_X4_take.2.1 14 = .ok (.aload_n 2, 1) := by decide +kernel
theorem d_X4_take_15 : decode i_X4_take.2.1 15 = .ok (.invokevirtual 30, 3) := by decide +kernel
theorem d_X4_take_18 : decode i_X4_take.2.1 18 = .ok (.aload_n 0, 1) := by decide +kernel
theorem d_X4_take_19 : decode i_X4_take.2.1 19 = .ok (.getfield 17, 3) := by decide +kernel
theorem d_X4_take_22 : decode i_X4_take.2.1 22 = .ok (.iload_n 1, 1) := by decide +kernel
theorem d_X4_take_23 : decode i_X4_take.2.1 23 = .ok (.iload_n 3, 1) := by decide +kernel
theorem d_X4_take_24 : decode i_X4_take.2.1 24 = .ok (.iastore, 1) := by decide +kernel
theorem d_X4_take_25 : decode i_X4_take.2.1 25 = .ok (.aload_n 0, 1) := by decide +kernel
theorem d_X4_take_26 : decode i_X4_take.2.1 26 = .ok (.getfield 21, 3) := by decide +kernel
theorem d_X4_take_29 : decode i_X4_take.2.1 29 = .ok (.iload_n 1, 1) := by decide +kernel
theorem d_X4_take_30 : decode i_X4_take.2.1 30 = .ok (.iconst 1, 1) := by decide +kernel
theorem d_X4_take_31 : decode i_X4_take.2.1 31 = .ok (.bastore, 1) := by decide +kernel
theorem d_X4_take_32 : decode i_X4_take.2.1 32 = .ok (.return_, 1) := by decide +kernel
def V_X4_take (x0 : Nat) (x1 : Int) (x2 : Nat) (x3 : Int) (h : Hp) (Q : Hp → Prop) : Prop :=
  hK h x0 = 4 ∧ C_X4_has x0 x1 h (fun r2 h1 => ((r2 = 0 → (Q h1)) ∧ (¬ r2 = 0 → (hK h1 x0 = 4 ∧ ((hK h1 (hR h1 x0 0) = 17 ∧ (0 : Int) ≤ x1 ∧ x1 < hL h1 (hR h1 x0 0)) ∧ (hK h1 (hR h1 (hR h1 x0 0) x1) = 7 ∧ C_X8_copyFrom (hR h1 (hR h1 x0 0) x1) x2 h1 (fun h3 => (hK h3 x0 = 4 ∧ ((hK h3 (hR h3 x0 1) = 12 ∧ (0 : Int) ≤ x1 ∧ x1 < hL h3 (hR h3 x0 1)) ∧ ∀ h4 : Hp, h4 = wI h3 (hR h3 x0 1) x1 x3 → (hK h4 x0 = 4 ∧ ((hK h4 (hR h4 x0 2) = 15 ∧ (0 : Int) ≤ x1 ∧ x1 < hL h4 (hR h4 x0 2) ∧ ((1 : Int) = 0 ∨ (1 : Int) = 1)) ∧ ∀ h5 : Hp, h5 = wI h4 (hR h4 x0 2) x1 1 → (Q h5))))))))))))
theorem G_X4_take {x0 : Nat} {x1 : Int} {x2 : Nat} {x3 : Int} (h : Hp) (Q : Hp → Prop) (hV : V_X4_take x0 x1 x2 x3 h Q) : C_X4_take x0 x1 x2 x3 h Q := by
  unfold V_X4_take at hV
  show Go i_X4_take 0 [(0, .inr (.inr x0)), (1, .inl x1), (2, .inr (.inr x2)), (3, .inl x3)] [] h (qV Q)
  refine s_aload_n d_X4_take_0 rfl (ma 0 rfl) ?_
  refine s_iload_n d_X4_take_1 rfl (ma 1 rfl) ?_
  obtain ⟨o, hV⟩ := hV
  refine v_RX4_26 rfl (Nat.le_of_ble_eq_true rfl) d_X4_take_2 o (Nat.le_of_ble_eq_true rfl) hV (fun r2 h1 hV => ?_)
  refine s_if_eq (tgt := 32) d_X4_take_5 (by decide) (fun c => ?_) (fun c => ?_)
  · have hV := hV.1 c
    exact s_vret d_X4_take_32 rfl ⟨rfl, hV⟩
  · have hV := hV.2 c
    refine s_aload_n d_X4_take_8 rfl (ma 0 rfl) ?_
    obtain ⟨o, hV⟩ := hV
    refine f_RX4_11g rfl d_X4_take_9 o ?_
    refine s_iload_n d_X4_take_12 rfl (ma 1 rfl) ?_
    obtain ⟨o, hV⟩ := hV
    refine s_aald d_X4_take_13 (Or.inr o.1) o.2.1 o.2.2 ?_
    refine s_aload_n d_X4_take_14 rfl (ma 2 rfl) ?_
    obtain ⟨o, hV⟩ := hV
    refine v_RX4_30 rfl (Nat.le_of_ble_eq_true rfl) d_X4_take_15 o (Nat.le_of_ble_eq_true rfl) hV (fun h3 hV => ?_)
    refine s_aload_n d_X4_take_18 rfl (ma 0 rfl) ?_
    obtain ⟨o, hV⟩ := hV
    refine f_RX4_17g rfl d_X4_take_19 o ?_
    refine s_iload_n d_X4_take_22 rfl (ma 1 rfl) ?_
    refine s_iload_n d_X4_take_23 rfl (ma 3 rfl) ?_
    obtain ⟨o, hV⟩ := hV
    refine s_iast d_X4_take_24 o.1 o.2.1 o.2.2 ?_
    refine s_nmH (fun h4 eh4 => ?_)
    have hV := hV h4 eh4
    refine s_aload_n d_X4_take_25 rfl (ma 0 rfl) ?_
    obtain ⟨o, hV⟩ := hV
    refine f_RX4_21g rfl d_X4_take_26 o ?_
    refine s_iload_n d_X4_take_29 rfl (ma 1 rfl) ?_
    refine s_iconst d_X4_take_30 (okn rfl) ?_
    obtain ⟨o, hV⟩ := hV
    refine s_zast d_X4_take_31 o.1 o.2.1 o.2.2.1 o.2.2.2 ?_
    refine s_nmH (fun h5 eh5 => ?_)
    have hV := hV h5 eh5
    exact s_vret d_X4_take_32 rfl ⟨rfl, hV⟩

theorem d_X4_give_0 : decode i_X4_give.2.1 0 = .ok (.aload_n 0, 1) := by decide +kernel
theorem d_X4_give_1 : decode i_X4_give.2.1 1 = .ok (.iload_n 1, 1) := by decide +kernel
theorem d_X4_give_2 : decode i_X4_give.2.1 2 = .ok (.invokevirtual 26, 3) := by decide +kernel
theorem d_X4_give_5 : decode i_X4_give.2.1 5 = .ok (.ifCond .eq 13, 3) := by decide +kernel
theorem d_X4_give_8 : decode i_X4_give.2.1 8 = .ok (.aload_n 2, 1) := by decide +kernel
theorem d_X4_give_9 : decode i_X4_give.2.1 9 = .ok (.aload_n 0, 1) := by decide +kernel
theorem d_X4_give_10 : decode i_X4_give.2.1 10 = .ok (.getfield 11, 3) := by decide +kernel
theorem d_X4_give_13 : decode i_X4_give.2.1 13 = .ok (.iload_n 1, 1) := by decide +kernel
theorem d_X4_give_14 : decode i_X4_give.2.1 14 = .ok (.aaload, 1) := by decide +kernel
theorem d_X4_give_15 : decode i_X4_give.2.1 15 = .ok (.invokevirtual 30, 3) := by decide +kernel
theorem d_X4_give_18 : decode i_X4_give.2.1 18 = .ok (.return_, 1) := by decide +kernel
def V_X4_give (x0 : Nat) (x1 : Int) (x2 : Nat) (h : Hp) (Q : Hp → Prop) : Prop :=
  hK h x0 = 4 ∧ C_X4_has x0 x1 h (fun r2 h1 => ((r2 = 0 → (Q h1)) ∧ (¬ r2 = 0 → (hK h1 x0 = 4 ∧ ((hK h1 (hR h1 x0 0) = 17 ∧ (0 : Int) ≤ x1 ∧ x1 < hL h1 (hR h1 x0 0)) ∧ (hK h1 x2 = 7 ∧ C_X8_copyFrom x2 (hR h1 (hR h1 x0 0) x1) h1 (fun h3 => (Q h3))))))))
theorem G_X4_give {x0 : Nat} {x1 : Int} {x2 : Nat} (h : Hp) (Q : Hp → Prop) (hV : V_X4_give x0 x1 x2 h Q) : C_X4_give x0 x1 x2 h Q := by
  unfold V_X4_give at hV
  show Go i_X4_give 0 [(0, .inr (.inr x0)), (1, .inl x1), (2, .inr (.inr x2))] [] h (qV Q)
  refine s_aload_n d_X4_give_0 rfl (ma 0 rfl) ?_
  refine s_iload_n d_X4_give_1 rfl (ma 1 rfl) ?_
  obtain ⟨o, hV⟩ := hV
  refine v_RX4_26 rfl (Nat.le_of_ble_eq_true rfl) d_X4_give_2 o (Nat.le_of_ble_eq_true rfl) hV (fun r2 h1 hV => ?_)
  refine s_if_eq (tgt := 18) d_X4_give_5 (by decide) (fun c => ?_) (fun c => ?_)
  · have hV := hV.1 c
    exact s_vret d_X4_give_18 rfl ⟨rfl, hV⟩
  · have hV := hV.2 c
    refine s_aload_n d_X4_give_8 rfl (ma 2 rfl) ?_
    refine s_aload_n d_X4_give_9 rfl (ma 0 rfl) ?_
    obtain ⟨o, hV⟩ := hV
    refine f_RX4_11g rfl d_X4_give_10 o ?_
    refine s_iload_n d_X4_give_13 rfl (ma 1 rfl) ?_
    obtain ⟨o, hV⟩ := hV
    refine s_aald d_X4_give_14 (Or.inr o.1) o.2.1 o.2.2 ?_
    obtain ⟨o, hV⟩ := hV
    refine v_RX4_30 rfl (Nat.le_of_ble_eq_true rfl) d_X4_give_15 o (Nat.le_of_ble_eq_true rfl) hV (fun h3 hV => ?_)
    exact s_vret d_X4_give_18 rfl ⟨rfl, hV⟩

theorem d_X4_seedOf_0 : decode i_X4_seedOf.2.1 0 = .ok (.aload_n 0, 1) := by decide +kernel
theorem d_X4_seedOf_1 : decode i_X4_seedOf.2.1 1 = .ok (.iload_n 1, 1) := by decide +kernel
theorem d_X4_seedOf_2 : decode i_X4_seedOf.2.1 2 = .ok (.invokevirtual 26, 3) := by decide +kernel
theorem d_X4_seedOf_5 : decode i_X4_seedOf.2.1 5 = .ok (.ifCond .eq 12, 3) := by decide +kernel
theorem d_X4_seedOf_8 : decode i_X4_seedOf.2.1 8 = .ok (.aload_n 0, 1) := by decide +kernel
theorem d_X4_seedOf_9 : decode i_X4_seedOf.2.1 9 = .ok (.getfield 17, 3) := by decide +kernel
theorem d_X4_seedOf_12 : decode i_X4_seedOf.2.1 12 = .ok (.iload_n 1, 1) := by decide +kernel
theorem d_X4_seedOf_13 : decode i_X4_seedOf.2.1 13 = .ok (.iaload, 1) := by decide +kernel
theorem d_X4_seedOf_14 : decode i_X4_seedOf.2.1 14 = .ok (.goto 4, 3) := by decide +kernel
theorem d_X4_seedOf_17 : decode i_X4_seedOf.2.1 17 = .ok (.iconst 0, 1) := by decide +kernel
theorem d_X4_seedOf_18 : decode i_X4_seedOf.2.1 18 = .ok (.ireturn, 1) := by decide +kernel
def V_X4_seedOf (x0 : Nat) (x1 : Int) (h : Hp) (Q : Int → Hp → Prop) : Prop :=
  hK h x0 = 4 ∧ C_X4_has x0 x1 h (fun r2 h1 => ((r2 = 0 → (Q 0 h1)) ∧ (¬ r2 = 0 → (hK h1 x0 = 4 ∧ ((hK h1 (hR h1 x0 1) = 12 ∧ (0 : Int) ≤ x1 ∧ x1 < hL h1 (hR h1 x0 1)) ∧ (Q (hI h1 (hR h1 x0 1) x1) h1))))))
theorem G_X4_seedOf {x0 : Nat} {x1 : Int} (h : Hp) (Q : Int → Hp → Prop) (hV : V_X4_seedOf x0 x1 h Q) : C_X4_seedOf x0 x1 h Q := by
  unfold V_X4_seedOf at hV
  show Go i_X4_seedOf 0 [(0, .inr (.inr x0)), (1, .inl x1)] [] h (qI Q)
  refine s_aload_n d_X4_seedOf_0 rfl (ma 0 rfl) ?_
  refine s_iload_n d_X4_seedOf_1 rfl (ma 1 rfl) ?_
  obtain ⟨o, hV⟩ := hV
  refine v_RX4_26 rfl (Nat.le_of_ble_eq_true rfl) d_X4_seedOf_2 o (Nat.le_of_ble_eq_true rfl) hV (fun r2 h1 hV => ?_)
  refine s_if_eq (tgt := 17) d_X4_seedOf_5 (by decide) (fun c => ?_) (fun c => ?_)
  · have hV := hV.1 c
    refine s_iconst d_X4_seedOf_17 (okn rfl) ?_
    exact s_iret d_X4_seedOf_18 rfl rfl ⟨_, rfl, hV⟩
  · have hV := hV.2 c
    refine s_aload_n d_X4_seedOf_8 rfl (ma 0 rfl) ?_
    obtain ⟨o, hV⟩ := hV
    refine f_RX4_17g rfl d_X4_seedOf_9 o ?_
    refine s_iload_n d_X4_seedOf_12 rfl (ma 1 rfl) ?_
    obtain ⟨o, hV⟩ := hV
    refine s_iald d_X4_seedOf_13 o.1 o.2.1 o.2.2 ?_
    refine s_goto (tgt := 18) d_X4_seedOf_14 (by decide) ?_
    exact s_iret d_X4_seedOf_18 rfl rfl ⟨_, rfl, hV⟩

theorem d_X6_init_0 : decode i_X6_init.2.1 0 = .ok (.aload_n 0, 1) := by decide +kernel
theorem d_X6_init_1 : decode i_X6_init.2.1 1 = .ok (.invokespecial 3, 3) := by decide +kernel
theorem d_X6_init_4 : decode i_X6_init.2.1 4 = .ok (.aload_n 0, 1) := by decide +kernel
theorem d_X6_init_5 : decode i_X6_init.2.1 5 = .ok (.bipush 30, 2) := by decide +kernel
theorem d_X6_init_7 : decode i_X6_init.2.1 7 = .ok (.anewarray 9, 3) := by decide +kernel
theorem d_X6_init_10 : decode i_X6_init.2.1 10 = .ok (.putfield 11, 3) := by decide +kernel
theorem d_X6_init_13 : decode i_X6_init.2.1 13 = .ok (.iconst 0, 1) := by decide +kernel
theorem d_X6_init_14 : decode i_X6_init.2.1 14 = .ok (.istore_n 1, 1) := by decide +kernel
theorem d_X6_init_15 : decode i_X6_init.2.1 15 = .ok (.iload_n 1, 1) := by decide +kernel
theorem d_X6_init_16 : decode i_X6_init.2.1 16 = .ok (.bipush 30, 2) := by decide +kernel
theorem d_X6_init_18 : decode i_X6_init.2.1 18 = .ok (.if_icmp .ge 22, 3) := by decide +kernel
theorem d_X6_init_21 : decode i_X6_init.2.1 21 = .ok (.aload_n 0, 1) := by decide +kernel
theorem d_X6_init_22 : decode i_X6_init.2.1 22 = .ok (.getfield 11, 3) := by decide +kernel
theorem d_X6_init_25 : decode i_X6_init.2.1 25 = .ok (.iload_n 1, 1) := by decide +kernel
theorem d_X6_init_26 : decode i_X6_init.2.1 26 = .ok (.new 9, 3) := by decide +kernel
theorem d_X6_init_29 : decode i_X6_init.2.1 29 = .ok (.dup, 1) := by decide +kernel
theorem d_X6_init_30 : decode i_X6_init.2.1 30 = .ok (.invokespecial 17, 3) := by decide +kernel
theorem d_X6_init_33 : decode i_X6_init.2.1 33 = .ok (.aastore, 1) := by decide +kernel
theorem d_X6_init_34 : decode i_X6_init.2.1 34 = .ok (.iinc 1 1, 3) := by decide +kernel
theorem d_X6_init_37 : decode i_X6_init.2.1 37 = .ok (.goto (-22), 3) := by decide +kernel
theorem d_X6_init_40 : decode i_X6_init.2.1 40 = .ok (.return_, 1) := by decide +kernel
def BLp_X6_init_15 (x0 : Nat) (P15 : Int → Hp → Prop) (x1 : Int) (h : Hp) (Q : Hp → Prop) : Prop :=
  (30 ≤ x1 → (Q h)) ∧ (¬ 30 ≤ x1 → (hK h x0 = 6 ∧ (∀ n1 : Nat, n1 = hN h → ∀ h2 : Hp, h2 = al h 7 0 5 → (hK h2 n1 = 7 ∧ C_X8_init n1  h2 (fun h3 => ((hK h3 (hR h x0 0) = 17 ∧ (0 : Int) ≤ x1 ∧ x1 < hL h3 (hR h x0 0) ∧ hK h3 n1 = 7) ∧ ∀ h4 : Hp, h4 = wR h3 (hR h x0 0) x1 n1 → (((-2147483648 : Int) ≤ x1 + 1 ∧ x1 + 1 ≤ (2147483647 : Int)) ∧ (P15 (x1 + 1) h4))))))))
def Lp_X6_init_15 (x0 : Nat) (x1 : Int) (h : Hp) (Q : Hp → Prop) : Prop := ∀ P15 : Int → Hp → Prop, (∀ (x1 : Int) (h : Hp), BLp_X6_init_15 x0 P15 x1 h Q → P15 x1 h) → P15 x1 h
theorem Lp_X6_init_15_ind {x0 : Nat} {Q : Hp → Prop} (I : Int → Hp → Prop) (μ : Int → Hp → Nat) (hs : ∀ (P15 : Int → Hp → Prop) (x1 : Int) (h : Hp), I x1 h → (∀ (x1' : Int) (h' : Hp), I x1' h' → μ x1' h' < μ x1 h → P15 x1' h') → BLp_X6_init_15 x0 P15 x1 h Q) : ∀ (x1 : Int) (h : Hp), I x1 h → Lp_X6_init_15 x0 x1 h Q := by
  intro x1 h hI P15 hP
  have key : ∀ (n : Nat) (x1 : Int) (h : Hp), I x1 h → μ x1 h < n → P15 x1 h := by
    intro n
    induction n with
    | zero => intro x1 h _ hl; exact absurd hl (Nat.not_lt_zero _)
    | succ n ih => intro x1 h hi hl; exact hP x1 h (hs P15 x1 h hi (fun x1 h' hi' hl' => ih x1 h' hi' (by omega)))
  exact key _ x1 h hI (Nat.lt_succ_self _)
theorem GLp_X6_init_15 (x0 : Nat) (x1 : Int) (h : Hp) (Q : Hp → Prop) (hV : Lp_X6_init_15 x0 x1 h Q) : Go i_X6_init 15 [(0, .inr (.inr x0)), (1, .inl x1)] [] h (qV Q) := by
  refine hV (fun x1 h => Go i_X6_init 15 [(0, .inr (.inr x0)), (1, .inl x1)] [] h (qV Q)) (fun x1 h hV => ?_)
  unfold BLp_X6_init_15 at hV
  have hP15 : ∀ (x1 : Int) (h : Hp), Go i_X6_init 15 [(0, .inr (.inr x0)), (1, .inl x1)] [] h (qV Q) → Go i_X6_init 15 [(0, .inr (.inr x0)), (1, .inl x1)] [] h (qV Q) := fun _ h z => z
  refine s_iload_n d_X6_init_15 rfl (ma 1 rfl) ?_
  refine s_bipush d_X6_init_16 (by decide) (okn rfl) ?_
  refine s_icmp_ge (tgt := 40) d_X6_init_18 (by decide) (fun c => ?_) (fun c => ?_)
  · have hV := hV.1 c
    exact s_vret d_X6_init_40 rfl ⟨rfl, hV⟩
  · have hV := hV.2 c
    refine s_aload_n d_X6_init_21 rfl (ma 0 rfl) ?_
    obtain ⟨o, hV⟩ := hV
    refine f_RX6_11g rfl d_X6_init_22 o ?_
    refine s_iload_n d_X6_init_25 rfl (ma 1 rfl) ?_
    refine s_new (ci := 7) d_X6_init_26 rfl q_RX6_9 ?_
    refine s_nmA (fun n1 en1 => ?_)
    refine s_nmH (fun h2 eh2 => ?_)
    have hV := hV n1 en1 h2 eh2
    refine s_dup d_X6_init_29 rfl ?_
    obtain ⟨o, hV⟩ := hV
    refine v_RX6_17 rfl (Nat.le_of_ble_eq_true rfl) d_X6_init_30 o (Nat.le_of_ble_eq_true rfl) hV (fun h3 hV => ?_)
    obtain ⟨o, hV⟩ := hV
    refine s_aast d_X6_init_33 (Or.inr ⟨o.1, o.2.2.2⟩) o.2.1 o.2.2.1 ?_
    refine s_nmH (fun h4 eh4 => ?_)
    have hV := hV h4 eh4
    obtain ⟨o, hV⟩ := hV
    refine s_iinc (lv' := [(1, .inl (x1 + 1)), (0, .inr (.inr x0))]) d_X6_init_34 (ma 1 rfl) o (Nat.le_of_ble_eq_true rfl) rfl ?_
    refine s_goto (tgt := 15) d_X6_init_37 (by decide) ?_
    refine s_pick (lv' := [(0, .inr (.inr x0)), (1, .inl (x1 + 1))]) [1, 0] rfl ?_
    exact hP15 _ _ hV
def V_X6_init (x0 : Nat) (h : Hp) (Q : Hp → Prop) : Prop :=
  hK h x0 = 6 ∧ (((0 : Int) ≤ 30 ∧ 30 ≤ (100000000 : Int)) ∧ ∀ n1 : Nat, n1 = hN h → ∀ h2 : Hp, h2 = al h 17 30 (Int.toNat 30) → (hK h2 x0 = 6 ∧ ∀ h3 : Hp, h3 = wR h2 x0 0 n1 → (Lp_X6_init_15 x0 0 h3 Q)))
theorem G_X6_init {x0 : Nat} (h : Hp) (Q : Hp → Prop) (hV : V_X6_init x0 h Q) : C_X6_init x0 h Q := by
  unfold V_X6_init at hV
  show Go i_X6_init 0 [(0, .inr (.inr x0))] [] h (qV Q)
  refine s_aload_n d_X6_init_0 rfl (ma 0 rfl) ?_
  obtain ⟨o, hV⟩ := hV
  refine s_objInit d_X6_init_1 ob_RX6_3 (Nat.le_of_ble_eq_true rfl) rfl (by rw [o]; decide) ?_
  refine s_aload_n d_X6_init_4 rfl (ma 0 rfl) ?_
  refine s_bipush d_X6_init_5 (by decide) (okn rfl) ?_
  obtain ⟨o, hV⟩ := hV
  refine s_newS d_X6_init_7 q_RX6_9 o.1 o.2 ?_
  refine s_nmA (fun n1 en1 => ?_)
  refine s_nmH (fun h2 eh2 => ?_)
  have hV := hV n1 en1 h2 eh2
  obtain ⟨o, hV⟩ := hV
  refine f_RX6_11p rfl rfl d_X6_init_10 o (fun h3 eh3 => ?_)
  have hV := hV h3 eh3
  refine s_iconst d_X6_init_13 (okn rfl) ?_
  refine s_istore_n (lv' := [(1, .inl 0), (0, .inr (.inr x0))]) d_X6_init_14 rfl (Nat.le_of_ble_eq_true rfl) rfl ?_
  refine s_pick (lv' := [(0, .inr (.inr x0)), (1, .inl 0)]) [1, 0] rfl ?_
  exact GLp_X6_init_15 _ _ _ _ hV

theorem d_X6_clear_0 : decode i_X6_clear.2.1 0 = .ok (.aload_n 0, 1) := by decide +kernel
theorem d_X6_clear_1 : decode i_X6_clear.2.1 1 = .ok (.iconst 0, 1) := by decide +kernel
theorem d_X6_clear_2 : decode i_X6_clear.2.1 2 = .ok (.putfield 18, 3) := by decide +kernel
theorem d_X6_clear_5 : decode i_X6_clear.2.1 5 = .ok (.return_, 1) := by decide +kernel
def V_X6_clear (x0 : Nat) (h : Hp) (Q : Hp → Prop) : Prop :=
  hK h x0 = 6 ∧ ∀ h1 : Hp, h1 = wI h x0 2 0 → (Q h1)
theorem G_X6_clear {x0 : Nat} (h : Hp) (Q : Hp → Prop) (hV : V_X6_clear x0 h Q) : C_X6_clear x0 h Q := by
  unfold V_X6_clear at hV
  show Go i_X6_clear 0 [(0, .inr (.inr x0))] [] h (qV Q)
  refine s_aload_n d_X6_clear_0 rfl (ma 0 rfl) ?_
  refine s_iconst d_X6_clear_1 (okn rfl) ?_
  obtain ⟨o, hV⟩ := hV
  refine f_RX6_18p rfl d_X6_clear_2 o (fun h1 eh1 => ?_)
  have hV := hV h1 eh1
  exact s_vret d_X6_clear_5 rfl ⟨rfl, hV⟩

theorem d_X6_remember_0 : decode i_X6_remember.2.1 0 = .ok (.aload_n 0, 1) := by decide +kernel
theorem d_X6_remember_1 : decode i_X6_remember.2.1 1 = .ok (.getfield 11, 3) := by decide +kernel
theorem d_X6_remember_4 : decode i_X6_remember.2.1 4 = .ok (.aload_n 0, 1) := by decide +kernel
theorem d_X6_remember_5 : decode i_X6_remember.2.1 5 = .ok (.getfield 22, 3) := by decide +kernel
theorem d_X6_remember_8 : decode i_X6_remember.2.1 8 = .ok (.aaload, 1) := by decide +kernel
theorem d_X6_remember_9 : decode i_X6_remember.2.1 9 = .ok (.aload_n 1, 1) := by decide +kernel
theorem d_X6_remember_10 : decode i_X6_remember.2.1 10 = .ok (.invokevirtual 25, 3) := by decide +kernel
theorem d_X6_remember_13 : decode i_X6_remember.2.1 13 = .ok (.aload_n 0, 1) := by decide +kernel
theorem d_X6_remember_14 : decode i_X6_remember.2.1 14 = .ok (.aload_n 0, 1) := by decide +kernel
theorem d_X6_remember_15 : decode i_X6_remember.2.1 15 = .ok (.getfield 22, 3) := by decide +kernel
theorem d_X6_remember_18 : decode i_X6_remember.2.1 18 = .ok (.iconst 1, 1) := by decide +kernel
theorem d_X6_remember_19 : decode i_X6_remember.2.1 19 = .ok (.iadd, 1) := by decide +kernel
theorem d_X6_remember_20 : decode i_X6_remember.2.1 20 = .ok (.bipush 30, 2) := by decide +kernel
theorem d_X6_remember_22 : decode i_X6_remember.2.1 22 = .ok (.irem, 1) := by decide +kernel
theorem d_X6_remember_23 : decode i_X6_remember.2.1 23 = .ok (.putfield 22, 3) := by decide +kernel
theorem d_X6_remember_26 : decode i_X6_remember.2.1 26 = .ok (.aload_n 0, 1) := by decide +kernel
theorem d_X6_remember_27 : decode i_X6_remember.2.1 27 = .ok (.bipush 30, 2) := by decide +kernel
theorem d_X6_remember_29 : decode i_X6_remember.2.1 29 = .ok (.aload_n 0, 1) := by decide +kernel
theorem d_X6_remember_30 : decode i_X6_remember.2.1 30 = .ok (.getfield 18, 3) := by decide +kernel
theorem d_X6_remember_33 : decode i_X6_remember.2.1 33 = .ok (.iconst 1, 1) := by decide +kernel
theorem d_X6_remember_34 : decode i_X6_remember.2.1 34 = .ok (.iadd, 1) := by decide +kernel
theorem d_X6_remember_35 : decode i_X6_remember.2.1 35 = .ok (.invokestatic 29, 3) := by decide +kernel
theorem d_X6_remember_38 : decode i_X6_remember.2.1 38 = .ok (.putfield 18, 3) := by decide +kernel
theorem d_X6_remember_41 : decode i_X6_remember.2.1 41 = .ok (.return_, 1) := by decide +kernel
def V_X6_remember (x0 : Nat) (x1 : Nat) (h : Hp) (Q : Hp → Prop) : Prop :=
  hK h x0 = 6 ∧ (hK h x0 = 6 ∧ ((hK h (hR h x0 0) = 17 ∧ (0 : Int) ≤ hI h x0 1 ∧ hI h x0 1 < hL h (hR h x0 0)) ∧ (hK h (hR h (hR h x0 0) (hI h x0 1)) = 7 ∧ C_X8_copyFrom (hR h (hR h x0 0) (hI h x0 1)) x1 h (fun h1 => (hK h1 x0 = 6 ∧ (((-2147483648 : Int) ≤ (hI h1 x0 1) + 1 ∧ (hI h1 x0 1) + 1 ≤ (2147483647 : Int)) ∧ (((0 : Int) ≤ (hI h1 x0 1) + 1 ∧ (0 : Int) < 30) ∧ (hK h1 x0 = 6 ∧ ∀ h2 : Hp, h2 = wI h1 x0 1 (((hI h1 x0 1) + 1) % 30) → (hK h2 x0 = 6 ∧ (((-2147483648 : Int) ≤ (hI h2 x0 2) + 1 ∧ (hI h2 x0 2) + 1 ≤ (2147483647 : Int)) ∧ (hK h2 x0 = 6 ∧ ∀ h3 : Hp, h3 = wI h2 x0 2 (min 30 ((hI h2 x0 2) + 1)) → (Q h3))))))))))))
theorem G_X6_remember {x0 : Nat} {x1 : Nat} (h : Hp) (Q : Hp → Prop) (hV : V_X6_remember x0 x1 h Q) : C_X6_remember x0 x1 h Q := by
  unfold V_X6_remember at hV
  show Go i_X6_remember 0 [(0, .inr (.inr x0)), (1, .inr (.inr x1))] [] h (qV Q)
  refine s_aload_n d_X6_remember_0 rfl (ma 0 rfl) ?_
  obtain ⟨o, hV⟩ := hV
  refine f_RX6_11g rfl d_X6_remember_1 o ?_
  refine s_aload_n d_X6_remember_4 rfl (ma 0 rfl) ?_
  obtain ⟨o, hV⟩ := hV
  refine f_RX6_22g rfl d_X6_remember_5 o ?_
  obtain ⟨o, hV⟩ := hV
  refine s_aald d_X6_remember_8 (Or.inr o.1) o.2.1 o.2.2 ?_
  refine s_aload_n d_X6_remember_9 rfl (ma 1 rfl) ?_
  obtain ⟨o, hV⟩ := hV
  refine v_RX6_25 rfl (Nat.le_of_ble_eq_true rfl) d_X6_remember_10 o (Nat.le_of_ble_eq_true rfl) hV (fun h1 hV => ?_)
  refine s_aload_n d_X6_remember_13 rfl (ma 0 rfl) ?_
  refine s_aload_n d_X6_remember_14 rfl (ma 0 rfl) ?_
  obtain ⟨o, hV⟩ := hV
  refine f_RX6_22g rfl d_X6_remember_15 o ?_
  refine s_iconst d_X6_remember_18 (okn rfl) ?_
  obtain ⟨o, hV⟩ := hV
  refine s_iadd d_X6_remember_19 o ?_
  refine s_bipush d_X6_remember_20 (by decide) (okn rfl) ?_
  obtain ⟨o, hV⟩ := hV
  refine s_irem d_X6_remember_22 o.1 o.2 ?_
  obtain ⟨o, hV⟩ := hV
  refine f_RX6_22p rfl d_X6_remember_23 o (fun h2 eh2 => ?_)
  have hV := hV h2 eh2
  refine s_aload_n d_X6_remember_26 rfl (ma 0 rfl) ?_
  refine s_bipush d_X6_remember_27 (by decide) (okn rfl) ?_
  refine s_aload_n d_X6_remember_29 rfl (ma 0 rfl) ?_
  obtain ⟨o, hV⟩ := hV
  refine f_RX6_18g rfl d_X6_remember_30 o ?_
  refine s_iconst d_X6_remember_33 (okn rfl) ?_
  obtain ⟨o, hV⟩ := hV
  refine s_iadd d_X6_remember_34 o ?_
  refine s_mmin d_X6_remember_35 mm_RX6_29 (Nat.le_of_ble_eq_true rfl) (Nat.le_of_ble_eq_true rfl) ?_
  obtain ⟨o, hV⟩ := hV
  refine f_RX6_18p rfl d_X6_remember_38 o (fun h3 eh3 => ?_)
  have hV := hV h3 eh3
  exact s_vret d_X6_remember_41 rfl ⟨rfl, hV⟩

theorem d_X6_restore_0 : decode i_X6_restore.2.1 0 = .ok (.iload_n 1, 1) := by decide +kernel
theorem d_X6_restore_1 : decode i_X6_restore.2.1 1 = .ok (.iconst 1, 1) := by decide +kernel
theorem d_X6_restore_2 : decode i_X6_restore.2.1 2 = .ok (.if_icmp .lt 11, 3) := by decide +kernel
theorem d_X6_restore_5 : decode i_X6_restore.2.1 5 = .ok (.iload_n 1, 1) := by decide +kernel
theorem d_X6_restore_6 : decode i_X6_restore.2.1 6 = .ok (.aload_n 0, 1) := by decide +kernel
theorem d_X6_restore_7 : decode i_X6_restore.2.1 7 = .ok (.getfield 18, 3) := by decide +kernel
theorem d_X6_restore_10 : decode i_X6_restore.2.1 10 = .ok (.if_icmp .le 4, 3) := by decide +kernel
theorem d_X6_restore_13 : decode i_X6_restore.2.1 13 = .ok (.return_, 1) := by decide +kernel
theorem d_X6_restore_14 : decode i_X6_restore.2.1 14 = .ok (.aload_n 0, 1) := by decide +kernel
theorem d_X6_restore_15 : decode i_X6_restore.2.1 15 = .ok (.aload_n 0, 1) := by decide +kernel
theorem d_X6_restore_16 : decode i_X6_restore.2.1 16 = .ok (.getfield 22, 3) := by decide +kernel
theorem d_X6_restore_19 : decode i_X6_restore.2.1 19 = .ok (.bipush 30, 2) := by decide +kernel
theorem d_X6_restore_21 : decode i_X6_restore.2.1 21 = .ok (.iadd, 1) := by decide +kernel
theorem d_X6_restore_22 : decode i_X6_restore.2.1 22 = .ok (.iload_n 1, 1) := by decide +kernel
theorem d_X6_restore_23 : decode i_X6_restore.2.1 23 = .ok (.isub, 1) := by decide +kernel
theorem d_X6_restore_24 : decode i_X6_restore.2.1 24 = .ok (.bipush 30, 2) := by decide +kernel
theorem d_X6_restore_26 : decode i_X6_restore.2.1 26 = .ok (.irem, 1) := by decide +kernel
theorem d_X6_restore_27 : decode i_X6_restore.2.1 27 = .ok (.putfield 22, 3) := by decide +kernel
theorem d_X6_restore_30 : decode i_X6_restore.2.1 30 = .ok (.aload_n 0, 1) := by decide +kernel
theorem d_X6_restore_31 : decode i_X6_restore.2.1 31 = .ok (.dup, 1) := by decide +kernel
theorem d_X6_restore_32 : decode i_X6_restore.2.1 32 = .ok (.getfield 18, 3) := by decide +kernel
theorem d_X6_restore_35 : decode i_X6_restore.2.1 35 = .ok (.iload_n 1, 1) := by decide +kernel
theorem d_X6_restore_36 : decode i_X6_restore.2.1 36 = .ok (.isub, 1) := by decide +kernel
theorem d_X6_restore_37 : decode i_X6_restore.2.1 37 = .ok (.putfield 18, 3) := by decide +kernel
theorem d_X6_restore_40 : decode i_X6_restore.2.1 40 = .ok (.aload_n 2, 1) := by decide +kernel
theorem d_X6_restore_41 : decode i_X6_restore.2.1 41 = .ok (.aload_n 0, 1) := by decide +kernel
theorem d_X6_restore_42 : decode i_X6_restore.2.1 42 = .ok (.getfield 11, 3) := by decide +kernel
theorem d_X6_restore_45 : decode i_X6_restore.2.1 45 = .ok (.aload_n 0, 1) := by decide +kernel
theorem d_X6_restore_46 : decode i_X6_restore.2.1 46 = .ok (.getfield 22, 3) := by decide +kernel
theorem d_X6_restore_49 : decode i_X6_restore.2.1 49 = .ok (.aaload, 1) := by decide +kernel
theorem d_X6_restore_50 : decode i_X6_restore.2.1 50 = .ok (.invokevirtual 25, 3) := by decide +kernel
theorem d_X6_restore_53 : decode i_X6_restore.2.1 53 = .ok (.return_, 1) := by decide +kernel
def V_X6_restore (x0 : Nat) (x1 : Int) (x2 : Nat) (h : Hp) (Q : Hp → Prop) : Prop :=
  (x1 < 1 → (Q h)) ∧ (¬ x1 < 1 → (hK h x0 = 6 ∧ ((x1 ≤ hI h x0 2 → (hK h x0 = 6 ∧ (((-2147483648 : Int) ≤ (hI h x0 1) + 30 ∧ (hI h x0 1) + 30 ≤ (2147483647 : Int)) ∧ (((-2147483648 : Int) ≤ ((hI h x0 1) + 30) - x1 ∧ ((hI h x0 1) + 30) - x1 ≤ (2147483647 : Int)) ∧ (((0 : Int) ≤ ((hI h x0 1) + 30) - x1 ∧ (0 : Int) < 30) ∧ (hK h x0 = 6 ∧ ∀ h1 : Hp, h1 = wI h x0 1 ((((hI h x0 1) + 30) - x1) % 30) → (hK h1 x0 = 6 ∧ (((-2147483648 : Int) ≤ (hI h1 x0 2) - x1 ∧ (hI h1 x0 2) - x1 ≤ (2147483647 : Int)) ∧ (hK h1 x0 = 6 ∧ ∀ h2 : Hp, h2 = wI h1 x0 2 ((hI h1 x0 2) - x1) → (hK h2 x0 = 6 ∧ (hK h2 x0 = 6 ∧ ((hK h2 (hR h2 x0 0) = 17 ∧ (0 : Int) ≤ hI h2 x0 1 ∧ hI h2 x0 1 < hL h2 (hR h2 x0 0)) ∧ (hK h2 x2 = 7 ∧ C_X8_copyFrom x2 (hR h2 (hR h2 x0 0) (hI h2 x0 1)) h2 (fun h3 => (Q h3))))))))))))))) ∧ (¬ x1 ≤ hI h x0 2 → (Q h)))))
theorem G_X6_restore {x0 : Nat} {x1 : Int} {x2 : Nat} (h : Hp) (Q : Hp → Prop) (hV : V_X6_restore x0 x1 x2 h Q) : C_X6_restore x0 x1 x2 h Q := by
  unfold V_X6_restore at hV
  show Go i_X6_restore 0 [(0, .inr (.inr x0)), (1, .inl x1), (2, .inr (.inr x2))] [] h (qV Q)
  refine s_iload_n d_X6_restore_0 rfl (ma 1 rfl) ?_
  refine s_iconst d_X6_restore_1 (okn rfl) ?_
  refine s_icmp_lt (tgt := 13) d_X6_restore_2 (by decide) (fun c => ?_) (fun c => ?_)
  · have hV := hV.1 c
    exact s_vret d_X6_restore_13 rfl ⟨rfl, hV⟩
  · have hV := hV.2 c
    refine s_iload_n d_X6_restore_5 rfl (ma 1 rfl) ?_
    refine s_aload_n d_X6_restore_6 rfl (ma 0 rfl) ?_
    obtain ⟨o, hV⟩ := hV
    refine f_RX6_18g rfl d_X6_restore_7 o ?_
    refine s_icmp_le (tgt := 14) d_X6_restore_10 (by decide) (fun c => ?_) (fun c => ?_)
    · have hV := hV.1 c
      refine s_aload_n d_X6_restore_14 rfl (ma 0 rfl) ?_
      refine s_aload_n d_X6_restore_15 rfl (ma 0 rfl) ?_
      obtain ⟨o, hV⟩ := hV
      refine f_RX6_22g rfl d_X6_restore_16 o ?_
      refine s_bipush d_X6_restore_19 (by decide) (okn rfl) ?_
      obtain ⟨o, hV⟩ := hV
      refine s_iadd d_X6_restore_21 o ?_
      refine s_iload_n d_X6_restore_22 rfl (ma 1 rfl) ?_
      obtain ⟨o, hV⟩ := hV
      refine s_isub d_X6_restore_23 o ?_
      refine s_bipush d_X6_restore_24 (by decide) (okn rfl) ?_
      obtain ⟨o, hV⟩ := hV
      refine s_irem d_X6_restore_26 o.1 o.2 ?_
      obtain ⟨o, hV⟩ := hV
      refine f_RX6_22p rfl d_X6_restore_27 o (fun h1 eh1 => ?_)
      have hV := hV h1 eh1
      refine s_aload_n d_X6_restore_30 rfl (ma 0 rfl) ?_
      refine s_dup d_X6_restore_31 rfl ?_
      obtain ⟨o, hV⟩ := hV
      refine f_RX6_18g rfl d_X6_restore_32 o ?_
      refine s_iload_n d_X6_restore_35 rfl (ma 1 rfl) ?_
      obtain ⟨o, hV⟩ := hV
      refine s_isub d_X6_restore_36 o ?_
      obtain ⟨o, hV⟩ := hV
      refine f_RX6_18p rfl d_X6_restore_37 o (fun h2 eh2 => ?_)
      have hV := hV h2 eh2
      refine s_aload_n d_X6_restore_40 rfl (ma 2 rfl) ?_
      refine s_aload_n d_X6_restore_41 rfl (ma 0 rfl) ?_
      obtain ⟨o, hV⟩ := hV
      refine f_RX6_11g rfl d_X6_restore_42 o ?_
      refine s_aload_n d_X6_restore_45 rfl (ma 0 rfl) ?_
      obtain ⟨o, hV⟩ := hV
      refine f_RX6_22g rfl d_X6_restore_46 o ?_
      obtain ⟨o, hV⟩ := hV
      refine s_aald d_X6_restore_49 (Or.inr o.1) o.2.1 o.2.2 ?_
      obtain ⟨o, hV⟩ := hV
      refine v_RX6_25 rfl (Nat.le_of_ble_eq_true rfl) d_X6_restore_50 o (Nat.le_of_ble_eq_true rfl) hV (fun h3 hV => ?_)
      exact s_vret d_X6_restore_53 rfl ⟨rfl, hV⟩
    · have hV := hV.2 c
      exact s_vret d_X6_restore_13 rfl ⟨rfl, hV⟩

theorem d_X9_init_0 : decode i_X9_init.2.1 0 = .ok (.aload_n 0, 1) := by decide +kernel
theorem d_X9_init_1 : decode i_X9_init.2.1 1 = .ok (.invokespecial 3, 3) := by decide +kernel
theorem d_X9_init_4 : decode i_X9_init.2.1 4 = .ok (.aload_n 0, 1) := by decide +kernel
theorem d_X9_init_5 : decode i_X9_init.2.1 5 = .ok (.new 9, 3) := by decide +kernel
theorem d_X9_init_8 : decode i_X9_init.2.1 8 = .ok (.dup, 1) := by decide +kernel
theorem d_X9_init_9 : decode i_X9_init.2.1 9 = .ok (.bipush 120, 2) := by decide +kernel
theorem d_X9_init_11 : decode i_X9_init.2.1 11 = .ok (.invokespecial 11, 3) := by decide +kernel
theorem d_X9_init_14 : decode i_X9_init.2.1 14 = .ok (.putfield 14, 3) := by decide +kernel
theorem d_X9_init_17 : decode i_X9_init.2.1 17 = .ok (.aload_n 0, 1) := by decide +kernel
theorem d_X9_init_18 : decode i_X9_init.2.1 18 = .ok (.new 9, 3) := by decide +kernel
theorem d_X9_init_21 : decode i_X9_init.2.1 21 = .ok (.dup, 1) := by decide +kernel
theorem d_X9_init_22 : decode i_X9_init.2.1 22 = .ok (.bipush 120, 2) := by decide +kernel
theorem d_X9_init_24 : decode i_X9_init.2.1 24 = .ok (.invokespecial 11, 3) := by decide +kernel
theorem d_X9_init_27 : decode i_X9_init.2.1 27 = .ok (.putfield 20, 3) := by decide +kernel
theorem d_X9_init_30 : decode i_X9_init.2.1 30 = .ok (.aload_n 0, 1) := by decide +kernel
theorem d_X9_init_31 : decode i_X9_init.2.1 31 = .ok (.bipush 61, 2) := by decide +kernel
theorem d_X9_init_33 : decode i_X9_init.2.1 33 = .ok (.anewarray 9, 3) := by decide +kernel
theorem d_X9_init_36 : decode i_X9_init.2.1 36 = .ok (.putfield 23, 3) := by decide +kernel
theorem d_X9_init_39 : decode i_X9_init.2.1 39 = .ok (.iconst 0, 1) := by decide +kernel
theorem d_X9_init_40 : decode i_X9_init.2.1 40 = .ok (.istore_n 1, 1) := by decide +kernel
theorem d_X9_init_41 : decode i_X9_init.2.1 41 = .ok (.iload_n 1, 1) := by decide +kernel
theorem d_X9_init_42 : decode i_X9_init.2.1 42 = .ok (.bipush 60, 2) := by decide +kernel
theorem d_X9_init_44 : decode i_X9_init.2.1 44 = .ok (.if_icmp .gt 24, 3) := by decide +kernel
theorem d_X9_init_47 : decode i_X9_init.2.1 47 = .ok (.aload_n 0, 1) := by decide +kernel
theorem d_X9_init_48 : decode i_X9_init.2.1 48 = .ok (.getfield 23, 3) := by decide +kernel
theorem d_X9_init_51 : decode i_X9_init.2.1 51 = .ok (.iload_n 1, 1) := by decide +kernel
theorem d_X9_init_52 : decode i_X9_init.2.1 52 = .ok (.new 9, 3) := by decide +kernel
theorem d_X9_init_55 : decode i_X9_init.2.1 55 = .ok (.dup, 1) := by decide +kernel
theorem d_X9_init_56 : decode i_X9_init.2.1 56 = .ok (.bipush 60, 2) := by decide +kernel
theorem d_X9_init_58 : decode i_X9_init.2.1 58 = .ok (.invokespecial 11, 3) := by decide +kernel
theorem d_X9_init_61 : decode i_X9_init.2.1 61 = .ok (.aastore, 1) := by decide +kernel
theorem d_X9_init_62 : decode i_X9_init.2.1 62 = .ok (.iinc 1 1, 3) := by decide +kernel
theorem d_X9_init_65 : decode i_X9_init.2.1 65 = .ok (.goto (-24), 3) := by decide +kernel
theorem d_X9_init_68 : decode i_X9_init.2.1 68 = .ok (.return_, 1) := by decide +kernel
def BLp_X9_init_41 (x0 : Nat) (P41 : Int → Hp → Prop) (x1 : Int) (h : Hp) (Q : Hp → Prop) : Prop :=
  (60 < x1 → (Q h)) ∧ (¬ 60 < x1 → (hK h x0 = 8 ∧ (∀ n1 : Nat, n1 = hN h → ∀ h2 : Hp, h2 = al h 2 0 2 → (hK h2 n1 = 2 ∧ C_X2_init n1 60 h2 (fun h3 => ((hK h3 (hR h x0 2) = 16 ∧ (0 : Int) ≤ x1 ∧ x1 < hL h3 (hR h x0 2) ∧ hK h3 n1 = 2) ∧ ∀ h4 : Hp, h4 = wR h3 (hR h x0 2) x1 n1 → (((-2147483648 : Int) ≤ x1 + 1 ∧ x1 + 1 ≤ (2147483647 : Int)) ∧ (P41 (x1 + 1) h4))))))))
def Lp_X9_init_41 (x0 : Nat) (x1 : Int) (h : Hp) (Q : Hp → Prop) : Prop := ∀ P41 : Int → Hp → Prop, (∀ (x1 : Int) (h : Hp), BLp_X9_init_41 x0 P41 x1 h Q → P41 x1 h) → P41 x1 h
theorem Lp_X9_init_41_ind {x0 : Nat} {Q : Hp → Prop} (I : Int → Hp → Prop) (μ : Int → Hp → Nat) (hs : ∀ (P41 : Int → Hp → Prop) (x1 : Int) (h : Hp), I x1 h → (∀ (x1' : Int) (h' : Hp), I x1' h' → μ x1' h' < μ x1 h → P41 x1' h') → BLp_X9_init_41 x0 P41 x1 h Q) : ∀ (x1 : Int) (h : Hp), I x1 h → Lp_X9_init_41 x0 x1 h Q := by
  intro x1 h hI P41 hP
  have key : ∀ (n : Nat) (x1 : Int) (h : Hp), I x1 h → μ x1 h < n → P41 x1 h := by
    intro n
    induction n with
    | zero => intro x1 h _ hl; exact absurd hl (Nat.not_lt_zero _)
    | succ n ih => intro x1 h hi hl; exact hP x1 h (hs P41 x1 h hi (fun x1 h' hi' hl' => ih x1 h' hi' (by omega)))
  exact key _ x1 h hI (Nat.lt_succ_self _)
theorem GLp_X9_init_41 (x0 : Nat) (x1 : Int) (h : Hp) (Q : Hp → Prop) (hV : Lp_X9_init_41 x0 x1 h Q) : Go i_X9_init 41 [(0, .inr (.inr x0)), (1, .inl x1)] [] h (qV Q) := by
  refine hV (fun x1 h => Go i_X9_init 41 [(0, .inr (.inr x0)), (1, .inl x1)] [] h (qV Q)) (fun x1 h hV => ?_)
  unfold BLp_X9_init_41 at hV
  have hP41 : ∀ (x1 : Int) (h : Hp), Go i_X9_init 41 [(0, .inr (.inr x0)), (1, .inl x1)] [] h (qV Q) → Go i_X9_init 41 [(0, .inr (.inr x0)), (1, .inl x1)] [] h (qV Q) := fun _ h z => z
  refine s_iload_n d_X9_init_41 rfl (ma 1 rfl) ?_
  refine s_bipush d_X9_init_42 (by decide) (okn rfl) ?_
  refine s_icmp_gt (tgt := 68) d_X9_init_44 (by decide) (fun c => ?_) (fun c => ?_)
  · have hV := hV.1 c
    exact s_vret d_X9_init_68 rfl ⟨rfl, hV⟩
  · have hV := hV.2 c
    refine s_aload_n d_X9_init_47 rfl (ma 0 rfl) ?_
    obtain ⟨o, hV⟩ := hV
    refine f_RX9_23g rfl d_X9_init_48 o ?_
    refine s_iload_n d_X9_init_51 rfl (ma 1 rfl) ?_
    refine s_new (ci := 2) d_X9_init_52 rfl q_RX9_9 ?_
    refine s_nmA (fun n1 en1 => ?_)
    refine s_nmH (fun h2 eh2 => ?_)
    have hV := hV n1 en1 h2 eh2
    refine s_dup d_X9_init_55 rfl ?_
    refine s_bipush d_X9_init_56 (by decide) (okn rfl) ?_
    obtain ⟨o, hV⟩ := hV
    refine v_RX9_11 rfl (Nat.le_of_ble_eq_true rfl) d_X9_init_58 o (Nat.le_of_ble_eq_true rfl) hV (fun h3 hV => ?_)
    obtain ⟨o, hV⟩ := hV
    refine s_aast d_X9_init_61 (Or.inl ⟨o.1, o.2.2.2⟩) o.2.1 o.2.2.1 ?_
    refine s_nmH (fun h4 eh4 => ?_)
    have hV := hV h4 eh4
    obtain ⟨o, hV⟩ := hV
    refine s_iinc (lv' := [(1, .inl (x1 + 1)), (0, .inr (.inr x0))]) d_X9_init_62 (ma 1 rfl) o (Nat.le_of_ble_eq_true rfl) rfl ?_
    refine s_goto (tgt := 41) d_X9_init_65 (by decide) ?_
    refine s_pick (lv' := [(0, .inr (.inr x0)), (1, .inl (x1 + 1))]) [1, 0] rfl ?_
    exact hP41 _ _ hV
def V_X9_init (x0 : Nat) (h : Hp) (Q : Hp → Prop) : Prop :=
  hK h x0 = 8 ∧ (∀ n1 : Nat, n1 = hN h → ∀ h2 : Hp, h2 = al h 2 0 2 → (hK h2 n1 = 2 ∧ C_X2_init n1 120 h2 (fun h3 => (hK h3 x0 = 8 ∧ ∀ h4 : Hp, h4 = wR h3 x0 0 n1 → (∀ n5 : Nat, n5 = hN h4 → ∀ h6 : Hp, h6 = al h4 2 0 2 → (hK h6 n5 = 2 ∧ C_X2_init n5 120 h6 (fun h7 => (hK h7 x0 = 8 ∧ ∀ h8 : Hp, h8 = wR h7 x0 1 n5 → (((0 : Int) ≤ 61 ∧ 61 ≤ (100000000 : Int)) ∧ ∀ n9 : Nat, n9 = hN h8 → ∀ h10 : Hp, h10 = al h8 16 61 (Int.toNat 61) → (hK h10 x0 = 8 ∧ ∀ h11 : Hp, h11 = wR h10 x0 2 n9 → (Lp_X9_init_41 x0 0 h11 Q)))))))))))
theorem G_X9_init {x0 : Nat} (h : Hp) (Q : Hp → Prop) (hV : V_X9_init x0 h Q) : C_X9_init x0 h Q := by
  unfold V_X9_init at hV
  show Go i_X9_init 0 [(0, .inr (.inr x0))] [] h (qV Q)
  refine s_aload_n d_X9_init_0 rfl (ma 0 rfl) ?_
  obtain ⟨o, hV⟩ := hV
  refine s_objInit d_X9_init_1 ob_RX9_3 (Nat.le_of_ble_eq_true rfl) rfl (by rw [o]; decide) ?_
  refine s_aload_n d_X9_init_4 rfl (ma 0 rfl) ?_
  refine s_new (ci := 2) d_X9_init_5 rfl q_RX9_9 ?_
  refine s_nmA (fun n1 en1 => ?_)
  refine s_nmH (fun h2 eh2 => ?_)
  have hV := hV n1 en1 h2 eh2
  refine s_dup d_X9_init_8 rfl ?_
  refine s_bipush d_X9_init_9 (by decide) (okn rfl) ?_
  obtain ⟨o, hV⟩ := hV
  refine v_RX9_11 rfl (Nat.le_of_ble_eq_true rfl) d_X9_init_11 o (Nat.le_of_ble_eq_true rfl) hV (fun h3 hV => ?_)
  obtain ⟨o, hV⟩ := hV
  refine f_RX9_14p rfl d_X9_init_14 o (fun h4 eh4 => ?_)
  have hV := hV h4 eh4
  refine s_aload_n d_X9_init_17 rfl (ma 0 rfl) ?_
  refine s_new (ci := 2) d_X9_init_18 rfl q_RX9_9 ?_
  refine s_nmA (fun n5 en5 => ?_)
  refine s_nmH (fun h6 eh6 => ?_)
  have hV := hV n5 en5 h6 eh6
  refine s_dup d_X9_init_21 rfl ?_
  refine s_bipush d_X9_init_22 (by decide) (okn rfl) ?_
  obtain ⟨o, hV⟩ := hV
  refine v_RX9_11 rfl (Nat.le_of_ble_eq_true rfl) d_X9_init_24 o (Nat.le_of_ble_eq_true rfl) hV (fun h7 hV => ?_)
  obtain ⟨o, hV⟩ := hV
  refine f_RX9_20p rfl d_X9_init_27 o (fun h8 eh8 => ?_)
  have hV := hV h8 eh8
  refine s_aload_n d_X9_init_30 rfl (ma 0 rfl) ?_
  refine s_bipush d_X9_init_31 (by decide) (okn rfl) ?_
  obtain ⟨o, hV⟩ := hV
  refine s_newF d_X9_init_33 q_RX9_9 o.1 o.2 ?_
  refine s_nmA (fun n9 en9 => ?_)
  refine s_nmH (fun h10 eh10 => ?_)
  have hV := hV n9 en9 h10 eh10
  obtain ⟨o, hV⟩ := hV
  refine f_RX9_23p rfl rfl d_X9_init_36 o (fun h11 eh11 => ?_)
  have hV := hV h11 eh11
  refine s_iconst d_X9_init_39 (okn rfl) ?_
  refine s_istore_n (lv' := [(1, .inl 0), (0, .inr (.inr x0))]) d_X9_init_40 rfl (Nat.le_of_ble_eq_true rfl) rfl ?_
  refine s_pick (lv' := [(0, .inr (.inr x0)), (1, .inl 0)]) [1, 0] rfl ?_
  exact GLp_X9_init_41 _ _ _ _ hV

theorem d_X9_begin_0 : decode i_X9_begin.2.1 0 = .ok (.aload_n 0, 1) := by decide +kernel
theorem d_X9_begin_1 : decode i_X9_begin.2.1 1 = .ok (.getfield 14, 3) := by decide +kernel
theorem d_X9_begin_4 : decode i_X9_begin.2.1 4 = .ok (.aload_n 1, 1) := by decide +kernel
theorem d_X9_begin_5 : decode i_X9_begin.2.1 5 = .ok (.invokevirtual 27, 3) := by decide +kernel
theorem d_X9_begin_8 : decode i_X9_begin.2.1 8 = .ok (.return_, 1) := by decide +kernel
def V_X9_begin (x0 : Nat) (x1 : Nat) (h : Hp) (Q : Hp → Prop) : Prop :=
  hK h x0 = 8 ∧ (hK h (hR h x0 0) = 2 ∧ C_X2_copyFrom (hR h x0 0) x1 h (fun h1 => (Q h1)))
theorem G_X9_begin {x0 : Nat} {x1 : Nat} (h : Hp) (Q : Hp → Prop) (hV : V_X9_begin x0 x1 h Q) : C_X9_begin x0 x1 h Q := by
  unfold V_X9_begin at hV
  show Go i_X9_begin 0 [(0, .inr (.inr x0)), (1, .inr (.inr x1))] [] h (qV Q)
  refine s_aload_n d_X9_begin_0 rfl (ma 0 rfl) ?_
  obtain ⟨o, hV⟩ := hV
  refine f_RX9_14g rfl d_X9_begin_1 o ?_
  refine s_aload_n d_X9_begin_4 rfl (ma 1 rfl) ?_
  obtain ⟨o, hV⟩ := hV
  refine v_RX9_27 rfl (Nat.le_of_ble_eq_true rfl) d_X9_begin_5 o (Nat.le_of_ble_eq_true rfl) hV (fun h1 hV => ?_)
  exact s_vret d_X9_begin_8 rfl ⟨rfl, hV⟩

theorem d_X9_readOn_0 : decode i_X9_readOn.2.1 0 = .ok (.aload_n 0, 1) := by decide +kernel
theorem d_X9_readOn_1 : decode i_X9_readOn.2.1 1 = .ok (.aload_n 3, 1) := by decide +kernel
theorem d_X9_readOn_2 : decode i_X9_readOn.2.1 2 = .ok (.invokevirtual 31, 3) := by decide +kernel
theorem d_X9_readOn_5 : decode i_X9_readOn.2.1 5 = .ok (.iconst 0, 1) := by decide +kernel
theorem d_X9_readOn_6 : decode i_X9_readOn.2.1 6 = .ok (.istore 4, 2) := by decide +kernel
theorem d_X9_readOn_8 : decode i_X9_readOn.2.1 8 = .ok (.iload 4, 2) := by decide +kernel
theorem d_X9_readOn_10 : decode i_X9_readOn.2.1 10 = .ok (.iload_n 2, 1) := by decide +kernel
theorem d_X9_readOn_11 : decode i_X9_readOn.2.1 11 = .ok (.if_icmp .ge 14, 3) := by decide +kernel
theorem d_X9_readOn_14 : decode i_X9_readOn.2.1 14 = .ok (.aload_n 0, 1) := by decide +kernel
theorem d_X9_readOn_15 : decode i_X9_readOn.2.1 15 = .ok (.iload_n 1, 1) := by decide +kernel
theorem d_X9_readOn_16 : decode i_X9_readOn.2.1 16 = .ok (.invokevirtual 34, 3) := by decide +kernel
theorem d_X9_readOn_19 : decode i_X9_readOn.2.1 19 = .ok (.iinc 4 1, 3) := by decide +kernel
theorem d_X9_readOn_22 : decode i_X9_readOn.2.1 22 = .ok (.goto (-14), 3) := by decide +kernel
theorem d_X9_readOn_25 : decode i_X9_readOn.2.1 25 = .ok (.aload_n 0, 1) := by decide +kernel
theorem d_X9_readOn_26 : decode i_X9_readOn.2.1 26 = .ok (.getfield 14, 3) := by decide +kernel
theorem d_X9_readOn_29 : decode i_X9_readOn.2.1 29 = .ok (.areturn, 1) := by decide +kernel
def BLp_X9_readOn_8 (x0 : Nat) (x1 : Int) (x2 : Int) (P8 : Int → Hp → Prop) (x4 : Int) (h : Hp) (Q : Nat → Hp → Prop) : Prop :=
  (x2 ≤ x4 → (hK h x0 = 8 ∧ (Q (hR h x0 0) h))) ∧ (¬ x2 ≤ x4 → (hK h x0 = 8 ∧ C_X9_step x0 x1 h (fun h1 => (((-2147483648 : Int) ≤ x4 + 1 ∧ x4 + 1 ≤ (2147483647 : Int)) ∧ (P8 (x4 + 1) h1)))))
def Lp_X9_readOn_8 (x0 : Nat) (x1 : Int) (x2 : Int) (x4 : Int) (h : Hp) (Q : Nat → Hp → Prop) : Prop := ∀ P8 : Int → Hp → Prop, (∀ (x4 : Int) (h : Hp), BLp_X9_readOn_8 x0 x1 x2 P8 x4 h Q → P8 x4 h) → P8 x4 h
theorem Lp_X9_readOn_8_ind {x0 : Nat} {x1 : Int} {x2 : Int} {Q : Nat → Hp → Prop} (I : Int → Hp → Prop) (μ : Int → Hp → Nat) (hs : ∀ (P8 : Int → Hp → Prop) (x4 : Int) (h : Hp), I x4 h → (∀ (x4' : Int) (h' : Hp), I x4' h' → μ x4' h' < μ x4 h → P8 x4' h') → BLp_X9_readOn_8 x0 x1 x2 P8 x4 h Q) : ∀ (x4 : Int) (h : Hp), I x4 h → Lp_X9_readOn_8 x0 x1 x2 x4 h Q := by
  intro x4 h hI P8 hP
  have key : ∀ (n : Nat) (x4 : Int) (h : Hp), I x4 h → μ x4 h < n → P8 x4 h := by
    intro n
    induction n with
    | zero => intro x4 h _ hl; exact absurd hl (Nat.not_lt_zero _)
    | succ n ih => intro x4 h hi hl; exact hP x4 h (hs P8 x4 h hi (fun x4 h' hi' hl' => ih x4 h' hi' (by omega)))
  exact key _ x4 h hI (Nat.lt_succ_self _)
theorem GLp_X9_readOn_8 (x0 : Nat) (x1 : Int) (x2 : Int) (x4 : Int) (h : Hp) (Q : Nat → Hp → Prop) (hV : Lp_X9_readOn_8 x0 x1 x2 x4 h Q) : Go i_X9_readOn 8 [(0, .inr (.inr x0)), (1, .inl x1), (2, .inl x2), (4, .inl x4)] [] h (qR Q) := by
  refine hV (fun x4 h => Go i_X9_readOn 8 [(0, .inr (.inr x0)), (1, .inl x1), (2, .inl x2), (4, .inl x4)] [] h (qR Q)) (fun x4 h hV => ?_)
  unfold BLp_X9_readOn_8 at hV
  have hP8 : ∀ (x4 : Int) (h : Hp), Go i_X9_readOn 8 [(0, .inr (.inr x0)), (1, .inl x1), (2, .inl x2), (4, .inl x4)] [] h (qR Q) → Go i_X9_readOn 8 [(0, .inr (.inr x0)), (1, .inl x1), (2, .inl x2), (4, .inl x4)] [] h (qR Q) := fun _ h z => z
  refine s_iload d_X9_readOn_8 (ma 3 rfl) ?_
  refine s_iload_n d_X9_readOn_10 rfl (ma 2 rfl) ?_
  refine s_icmp_ge (tgt := 25) d_X9_readOn_11 (by decide) (fun c => ?_) (fun c => ?_)
  · have hV := hV.1 c
    refine s_aload_n d_X9_readOn_25 rfl (ma 0 rfl) ?_
    obtain ⟨o, hV⟩ := hV
    refine f_RX9_14g rfl d_X9_readOn_26 o ?_
    exact s_aret d_X9_readOn_29 rfl (Or.inl ⟨_, rfl⟩) ⟨_, rfl, hV⟩
  · have hV := hV.2 c
    refine s_aload_n d_X9_readOn_14 rfl (ma 0 rfl) ?_
    refine s_iload_n d_X9_readOn_15 rfl (ma 1 rfl) ?_
    obtain ⟨o, hV⟩ := hV
    refine v_RX9_34 rfl (Nat.le_of_ble_eq_true rfl) d_X9_readOn_16 o (Nat.le_of_ble_eq_true rfl) hV (fun h1 hV => ?_)
    obtain ⟨o, hV⟩ := hV
    refine s_iinc (lv' := [(4, .inl (x4 + 1)), (0, .inr (.inr x0)), (1, .inl x1), (2, .inl x2)]) d_X9_readOn_19 (ma 3 rfl) o (Nat.le_of_ble_eq_true rfl) rfl ?_
    refine s_goto (tgt := 8) d_X9_readOn_22 (by decide) ?_
    refine s_pick (lv' := [(0, .inr (.inr x0)), (1, .inl x1), (2, .inl x2), (4, .inl (x4 + 1))]) [1, 2, 3, 0] rfl ?_
    exact hP8 _ _ hV
def V_X9_readOn (x0 : Nat) (x1 : Int) (x2 : Int) (x3 : Nat) (h : Hp) (Q : Nat → Hp → Prop) : Prop :=
  hK h x0 = 8 ∧ C_X9_begin x0 x3 h (fun h1 => (Lp_X9_readOn_8 x0 x1 x2 0 h1 Q))
theorem G_X9_readOn {x0 : Nat} {x1 : Int} {x2 : Int} {x3 : Nat} (h : Hp) (Q : Nat → Hp → Prop) (hV : V_X9_readOn x0 x1 x2 x3 h Q) : C_X9_readOn x0 x1 x2 x3 h Q := by
  unfold V_X9_readOn at hV
  show Go i_X9_readOn 0 [(0, .inr (.inr x0)), (1, .inl x1), (2, .inl x2), (3, .inr (.inr x3))] [] h (qR Q)
  refine s_aload_n d_X9_readOn_0 rfl (ma 0 rfl) ?_
  refine s_aload_n d_X9_readOn_1 rfl (ma 3 rfl) ?_
  obtain ⟨o, hV⟩ := hV
  refine v_RX9_31 rfl (Nat.le_of_ble_eq_true rfl) d_X9_readOn_2 o (Nat.le_of_ble_eq_true rfl) hV (fun h1 hV => ?_)
  refine s_iconst d_X9_readOn_5 (okn rfl) ?_
  refine s_istore (lv' := [(4, .inl 0), (0, .inr (.inr x0)), (1, .inl x1), (2, .inl x2), (3, .inr (.inr x3))]) d_X9_readOn_6 (Nat.le_of_ble_eq_true rfl) rfl ?_
  refine s_pick (lv' := [(0, .inr (.inr x0)), (1, .inl x1), (2, .inl x2), (4, .inl 0)]) [1, 2, 3, 0] rfl ?_
  exact GLp_X9_readOn_8 _ _ _ _ _ _ hV

theorem d_X9_step_0 : decode i_X9_step.2.1 0 = .ok (.iload_n 1, 1) := by decide +kernel
theorem d_X9_step_1 : decode i_X9_step.2.1 1 = .ok (.aload_n 0, 1) := by decide +kernel
theorem d_X9_step_2 : decode i_X9_step.2.1 2 = .ok (.getfield 14, 3) := by decide +kernel
theorem d_X9_step_5 : decode i_X9_step.2.1 5 = .ok (.aload_n 0, 1) := by decide +kernel
theorem d_X9_step_6 : decode i_X9_step.2.1 6 = .ok (.getfield 20, 3) := by decide +kernel
theorem d_X9_step_9 : decode i_X9_step.2.1 9 = .ok (.invokestatic 37, 3) := by decide +kernel
theorem d_X9_step_12 : decode i_X9_step.2.1 12 = .ok (.aload_n 0, 1) := by decide +kernel
theorem d_X9_step_13 : decode i_X9_step.2.1 13 = .ok (.invokevirtual 43, 3) := by decide +kernel
theorem d_X9_step_16 : decode i_X9_step.2.1 16 = .ok (.return_, 1) := by decide +kernel
def V_X9_step (x0 : Nat) (x1 : Int) (h : Hp) (Q : Hp → Prop) : Prop :=
  hK h x0 = 8 ∧ (hK h x0 = 8 ∧ (C_X7_say x1 (hR h x0 0) (hR h x0 1) h (fun h1 => (hK h1 x0 = 8 ∧ C_X9_swap x0  h1 (fun h2 => (Q h2))))))
theorem G_X9_step {x0 : Nat} {x1 : Int} (h : Hp) (Q : Hp → Prop) (hV : V_X9_step x0 x1 h Q) : C_X9_step x0 x1 h Q := by
  unfold V_X9_step at hV
  show Go i_X9_step 0 [(0, .inr (.inr x0)), (1, .inl x1)] [] h (qV Q)
  refine s_iload_n d_X9_step_0 rfl (ma 1 rfl) ?_
  refine s_aload_n d_X9_step_1 rfl (ma 0 rfl) ?_
  obtain ⟨o, hV⟩ := hV
  refine f_RX9_14g rfl d_X9_step_2 o ?_
  refine s_aload_n d_X9_step_5 rfl (ma 0 rfl) ?_
  obtain ⟨o, hV⟩ := hV
  refine f_RX9_20g rfl d_X9_step_6 o ?_
  refine v_RX9_37 rfl (Nat.le_of_ble_eq_true rfl) d_X9_step_9 (Nat.le_of_ble_eq_true rfl) hV (fun h1 hV => ?_)
  refine s_aload_n d_X9_step_12 rfl (ma 0 rfl) ?_
  obtain ⟨o, hV⟩ := hV
  refine v_RX9_43 rfl (Nat.le_of_ble_eq_true rfl) d_X9_step_13 o (Nat.le_of_ble_eq_true rfl) hV (fun h2 hV => ?_)
  exact s_vret d_X9_step_16 rfl ⟨rfl, hV⟩

theorem d_X9_swap_0 : decode i_X9_swap.2.1 0 = .ok (.aload_n 0, 1) := by decide +kernel
theorem d_X9_swap_1 : decode i_X9_swap.2.1 1 = .ok (.getfield 14, 3) := by decide +kernel
theorem d_X9_swap_4 : decode i_X9_swap.2.1 4 = .ok (.astore_n 1, 1) := by decide +kernel
theorem d_X9_swap_5 : decode i_X9_swap.2.1 5 = .ok (.aload_n 0, 1) := by decide +kernel
theorem d_X9_swap_6 : decode i_X9_swap.2.1 6 = .ok (.aload_n 0, 1) := by decide +kernel
theorem d_X9_swap_7 : decode i_X9_swap.2.1 7 = .ok (.getfield 20, 3) := by decide +kernel
theorem d_X9_swap_10 : decode i_X9_swap.2.1 10 = .ok (.putfield 14, 3) := by decide +kernel
theorem d_X9_swap_13 : decode i_X9_swap.2.1 13 = .ok (.aload_n 0, 1) := by decide +kernel
theorem d_X9_swap_14 : decode i_X9_swap.2.1 14 = .ok (.aload_n 1, 1) := by decide +kernel
theorem d_X9_swap_15 : decode i_X9_swap.2.1 15 = .ok (.putfield 20, 3) := by decide +kernel
theorem d_X9_swap_18 : decode i_X9_swap.2.1 18 = .ok (.return_, 1) := by decide +kernel
def V_X9_swap (x0 : Nat) (h : Hp) (Q : Hp → Prop) : Prop :=
  hK h x0 = 8 ∧ (∀ x1_1 : Nat, x1_1 = hR h x0 0 → (hK h x0 = 8 ∧ (hK h x0 = 8 ∧ ∀ h2 : Hp, h2 = wR h x0 0 (hR h x0 1) → (hK h2 x0 = 8 ∧ ∀ h3 : Hp, h3 = wR h2 x0 1 x1_1 → (Q h3)))))
theorem G_X9_swap {x0 : Nat} (h : Hp) (Q : Hp → Prop) (hV : V_X9_swap x0 h Q) : C_X9_swap x0 h Q := by
  unfold V_X9_swap at hV
  show Go i_X9_swap 0 [(0, .inr (.inr x0))] [] h (qV Q)
  refine s_aload_n d_X9_swap_0 rfl (ma 0 rfl) ?_
  obtain ⟨o, hV⟩ := hV
  refine f_RX9_14g rfl d_X9_swap_1 o ?_
  refine s_nmA (fun x1_1 ex1_1 => ?_)
  have hV := hV x1_1 ex1_1
  refine s_astore_n (lv' := [(1, .inr (.inr x1_1)), (0, .inr (.inr x0))]) d_X9_swap_4 rfl (Nat.le_of_ble_eq_true rfl) rfl ?_
  refine s_aload_n d_X9_swap_5 rfl (ma 1 rfl) ?_
  refine s_aload_n d_X9_swap_6 rfl (ma 1 rfl) ?_
  obtain ⟨o, hV⟩ := hV
  refine f_RX9_20g rfl d_X9_swap_7 o ?_
  obtain ⟨o, hV⟩ := hV
  refine f_RX9_14p rfl d_X9_swap_10 o (fun h2 eh2 => ?_)
  have hV := hV h2 eh2
  refine s_aload_n d_X9_swap_13 rfl (ma 1 rfl) ?_
  refine s_aload_n d_X9_swap_14 rfl (ma 0 rfl) ?_
  obtain ⟨o, hV⟩ := hV
  refine f_RX9_20p rfl d_X9_swap_15 o (fun h3 eh3 => ?_)
  have hV := hV h3 eh3
  exact s_vret d_X9_swap_18 rfl ⟨rfl, hV⟩

theorem d_X9_firstWith_0 : decode i_X9_firstWith.2.1 0 = .ok (.aload_n 0, 1) := by decide +kernel
theorem d_X9_firstWith_1 : decode i_X9_firstWith.2.1 1 = .ok (.aload_n 3, 1) := by decide +kernel
theorem d_X9_firstWith_2 : decode i_X9_firstWith.2.1 2 = .ok (.invokevirtual 31, 3) := by decide +kernel
theorem d_X9_firstWith_5 : decode i_X9_firstWith.2.1 5 = .ok (.iconst 0, 1) := by decide +kernel
theorem d_X9_firstWith_6 : decode i_X9_firstWith.2.1 6 = .ok (.istore 4, 2) := by decide +kernel
theorem d_X9_firstWith_8 : decode i_X9_firstWith.2.1 8 = .ok (.iload 4, 2) := by decide +kernel
theorem d_X9_firstWith_10 : decode i_X9_firstWith.2.1 10 = .ok (.bipush 8, 2) := by decide +kernel
theorem d_X9_firstWith_12 : decode i_X9_firstWith.2.1 12 = .ok (.if_icmp .gt 33, 3) := by decide +kernel
theorem d_X9_firstWith_15 : decode i_X9_firstWith.2.1 15 = .ok (.iload 4, 2) := by decide +kernel
theorem d_X9_firstWith_17 : decode i_X9_firstWith.2.1 17 = .ok (.ifCond .le 8, 3) := by decide +kernel
theorem d_X9_firstWith_20 : decode i_X9_firstWith.2.1 20 = .ok (.aload_n 0, 1) := by decide +kernel
theorem d_X9_firstWith_21 : decode i_X9_firstWith.2.1 21 = .ok (.iload_n 1, 1) := by decide +kernel
theorem d_X9_firstWith_22 : decode i_X9_firstWith.2.1 22 = .ok (.invokevirtual 34, 3) := by decide +kernel
theorem d_X9_firstWith_25 : decode i_X9_firstWith.2.1 25 = .ok (.aload_n 0, 1) := by decide +kernel
theorem d_X9_firstWith_26 : decode i_X9_firstWith.2.1 26 = .ok (.getfield 14, 3) := by decide +kernel
theorem d_X9_firstWith_29 : decode i_X9_firstWith.2.1 29 = .ok (.iload_n 2, 1) := by decide +kernel
theorem d_X9_firstWith_30 : decode i_X9_firstWith.2.1 30 = .ok (.invokevirtual 46, 3) := by decide +kernel
theorem d_X9_firstWith_33 : decode i_X9_firstWith.2.1 33 = .ok (.ifCond .eq 6, 3) := by decide +kernel
theorem d_X9_firstWith_36 : decode i_X9_firstWith.2.1 36 = .ok (.iload 4, 2) := by decide +kernel
theorem d_X9_firstWith_38 : decode i_X9_firstWith.2.1 38 = .ok (.ireturn, 1) := by decide +kernel
theorem d_X9_firstWith_39 : decode i_X9_firstWith.2.1 39 = .ok (.iinc 4 1, 3) := by decide +kernel
theorem d_X9_firstWith_42 : decode i_X9_firstWith.2.1 42 = .ok (.goto (-34), 3) := by decide +kernel
theorem d_X9_firstWith_45 : decode i_X9_firstWith.2.1 45 = .ok (.iconst (-1), 1) := by decide +kernel
theorem d_X9_firstWith_46 : decode i_X9_firstWith.2.1 46 = .ok (.ireturn, 1) := by decide +kernel
def J_X9_firstWith_25 (P8 : Int → Hp → Prop) (x0 : Nat) (x1 : Int) (x2 : Int) (x4 : Int) (h : Hp) (Q : Int → Hp → Prop) : Prop :=
  hK h x0 = 8 ∧ (hK h (hR h x0 0) = 2 ∧ C_X2_has (hR h x0 0) x2 h (fun r2 h1 => ((r2 = 0 → (((-2147483648 : Int) ≤ x4 + 1 ∧ x4 + 1 ≤ (2147483647 : Int)) ∧ (P8 (x4 + 1) h1))) ∧ (¬ r2 = 0 → (Q x4 h1)))))
theorem GJ_X9_firstWith_25 {P8 : Int → Hp → Prop} (x0 : Nat) (x1 : Int) (x2 : Int) (x4 : Int) (h : Hp) (Q : Int → Hp → Prop) (hP8 : ∀ (m4 : Int) (h : Hp), P8 m4 h → Go i_X9_firstWith 8 [(0, .inr (.inr x0)), (1, .inl x1), (2, .inl x2), (4, .inl m4)] [] h (qI Q)) (hV : J_X9_firstWith_25 P8 x0 x1 x2 x4 h Q) : Go i_X9_firstWith 25 [(0, .inr (.inr x0)), (1, .inl x1), (2, .inl x2), (4, .inl x4)] [] h (qI Q) := by
  unfold J_X9_firstWith_25 at hV
  refine s_aload_n d_X9_firstWith_25 rfl (ma 0 rfl) ?_
  obtain ⟨o, hV⟩ := hV
  refine f_RX9_14g rfl d_X9_firstWith_26 o ?_
  refine s_iload_n d_X9_firstWith_29 rfl (ma 2 rfl) ?_
  obtain ⟨o, hV⟩ := hV
  refine v_RX9_46 rfl (Nat.le_of_ble_eq_true rfl) d_X9_firstWith_30 o (Nat.le_of_ble_eq_true rfl) hV (fun r2 h1 hV => ?_)
  refine s_if_eq (tgt := 39) d_X9_firstWith_33 (by decide) (fun c => ?_) (fun c => ?_)
  · have hV := hV.1 c
    obtain ⟨o, hV⟩ := hV
    refine s_iinc (lv' := [(4, .inl (x4 + 1)), (0, .inr (.inr x0)), (1, .inl x1), (2, .inl x2)]) d_X9_firstWith_39 (ma 3 rfl) o (Nat.le_of_ble_eq_true rfl) rfl ?_
    refine s_goto (tgt := 8) d_X9_firstWith_42 (by decide) ?_
    refine s_pick (lv' := [(0, .inr (.inr x0)), (1, .inl x1), (2, .inl x2), (4, .inl (x4 + 1))]) [1, 2, 3, 0] rfl ?_
    exact hP8 _ _ hV
  · have hV := hV.2 c
    refine s_iload d_X9_firstWith_36 (ma 3 rfl) ?_
    exact s_iret d_X9_firstWith_38 rfl rfl ⟨_, rfl, hV⟩
def BLp_X9_firstWith_8 (x0 : Nat) (x1 : Int) (x2 : Int) (P8 : Int → Hp → Prop) (x4 : Int) (h : Hp) (Q : Int → Hp → Prop) : Prop :=
  (8 < x4 → (Q (-1) h)) ∧ (¬ 8 < x4 → ((x4 ≤ 0 → (J_X9_firstWith_25 P8 x0 x1 x2 x4 h Q)) ∧ (¬ x4 ≤ 0 → (hK h x0 = 8 ∧ C_X9_step x0 x1 h (fun h1 => (J_X9_firstWith_25 P8 x0 x1 x2 x4 h1 Q))))))
def Lp_X9_firstWith_8 (x0 : Nat) (x1 : Int) (x2 : Int) (x4 : Int) (h : Hp) (Q : Int → Hp → Prop) : Prop := ∀ P8 : Int → Hp → Prop, (∀ (x4 : Int) (h : Hp), BLp_X9_firstWith_8 x0 x1 x2 P8 x4 h Q → P8 x4 h) → P8 x4 h
theorem Lp_X9_firstWith_8_ind {x0 : Nat} {x1 : Int} {x2 : Int} {Q : Int → Hp → Prop} (I : Int → Hp → Prop) (μ : Int → Hp → Nat) (hs : ∀ (P8 : Int → Hp → Prop) (x4 : Int) (h : Hp), I x4 h → (∀ (x4' : Int) (h' : Hp), I x4' h' → μ x4' h' < μ x4 h → P8 x4' h') → BLp_X9_firstWith_8 x0 x1 x2 P8 x4 h Q) : ∀ (x4 : Int) (h : Hp), I x4 h → Lp_X9_firstWith_8 x0 x1 x2 x4 h Q := by
  intro x4 h hI P8 hP
  have key : ∀ (n : Nat) (x4 : Int) (h : Hp), I x4 h → μ x4 h < n → P8 x4 h := by
    intro n
    induction n with
    | zero => intro x4 h _ hl; exact absurd hl (Nat.not_lt_zero _)
    | succ n ih => intro x4 h hi hl; exact hP x4 h (hs P8 x4 h hi (fun x4 h' hi' hl' => ih x4 h' hi' (by omega)))
  exact key _ x4 h hI (Nat.lt_succ_self _)
theorem GLp_X9_firstWith_8 (x0 : Nat) (x1 : Int) (x2 : Int) (x4 : Int) (h : Hp) (Q : Int → Hp → Prop) (hV : Lp_X9_firstWith_8 x0 x1 x2 x4 h Q) : Go i_X9_firstWith 8 [(0, .inr (.inr x0)), (1, .inl x1), (2, .inl x2), (4, .inl x4)] [] h (qI Q) := by
  refine hV (fun x4 h => Go i_X9_firstWith 8 [(0, .inr (.inr x0)), (1, .inl x1), (2, .inl x2), (4, .inl x4)] [] h (qI Q)) (fun x4 h hV => ?_)
  unfold BLp_X9_firstWith_8 at hV
  have hP8 : ∀ (x4 : Int) (h : Hp), Go i_X9_firstWith 8 [(0, .inr (.inr x0)), (1, .inl x1), (2, .inl x2), (4, .inl x4)] [] h (qI Q) → Go i_X9_firstWith 8 [(0, .inr (.inr x0)), (1, .inl x1), (2, .inl x2), (4, .inl x4)] [] h (qI Q) := fun _ h z => z
  refine s_iload d_X9_firstWith_8 (ma 3 rfl) ?_
  refine s_bipush d_X9_firstWith_10 (by decide) (okn rfl) ?_
  refine s_icmp_gt (tgt := 45) d_X9_firstWith_12 (by decide) (fun c => ?_) (fun c => ?_)
  · have hV := hV.1 c
    refine s_iconst d_X9_firstWith_45 (okn rfl) ?_
    exact s_iret d_X9_firstWith_46 rfl rfl ⟨_, rfl, hV⟩
  · have hV := hV.2 c
    refine s_iload d_X9_firstWith_15 (ma 3 rfl) ?_
    refine s_if_le (tgt := 25) d_X9_firstWith_17 (by decide) (fun c => ?_) (fun c => ?_)
    · have hV := hV.1 c
      exact GJ_X9_firstWith_25 _ _ _ _ _ _ (by intros; apply hP8; assumption) hV
    · have hV := hV.2 c
      refine s_aload_n d_X9_firstWith_20 rfl (ma 0 rfl) ?_
      refine s_iload_n d_X9_firstWith_21 rfl (ma 1 rfl) ?_
      obtain ⟨o, hV⟩ := hV
      refine v_RX9_34 rfl (Nat.le_of_ble_eq_true rfl) d_X9_firstWith_22 o (Nat.le_of_ble_eq_true rfl) hV (fun h1 hV => ?_)
      exact GJ_X9_firstWith_25 _ _ _ _ _ _ (by intros; apply hP8; assumption) hV
def V_X9_firstWith (x0 : Nat) (x1 : Int) (x2 : Int) (x3 : Nat) (h : Hp) (Q : Int → Hp → Prop) : Prop :=
  hK h x0 = 8 ∧ C_X9_begin x0 x3 h (fun h1 => (Lp_X9_firstWith_8 x0 x1 x2 0 h1 Q))
theorem G_X9_firstWith {x0 : Nat} {x1 : Int} {x2 : Int} {x3 : Nat} (h : Hp) (Q : Int → Hp → Prop) (hV : V_X9_firstWith x0 x1 x2 x3 h Q) : C_X9_firstWith x0 x1 x2 x3 h Q := by
  unfold V_X9_firstWith at hV
  show Go i_X9_firstWith 0 [(0, .inr (.inr x0)), (1, .inl x1), (2, .inl x2), (3, .inr (.inr x3))] [] h (qI Q)
  refine s_aload_n d_X9_firstWith_0 rfl (ma 0 rfl) ?_
  refine s_aload_n d_X9_firstWith_1 rfl (ma 3 rfl) ?_
  obtain ⟨o, hV⟩ := hV
  refine v_RX9_31 rfl (Nat.le_of_ble_eq_true rfl) d_X9_firstWith_2 o (Nat.le_of_ble_eq_true rfl) hV (fun h1 hV => ?_)
  refine s_iconst d_X9_firstWith_5 (okn rfl) ?_
  refine s_istore (lv' := [(4, .inl 0), (0, .inr (.inr x0)), (1, .inl x1), (2, .inl x2), (3, .inr (.inr x3))]) d_X9_firstWith_6 (Nat.le_of_ble_eq_true rfl) rfl ?_
  refine s_pick (lv' := [(0, .inr (.inr x0)), (1, .inl x1), (2, .inl x2), (4, .inl 0)]) [1, 2, 3, 0] rfl ?_
  exact GLp_X9_firstWith_8 _ _ _ _ _ _ hV

theorem d_X9_comesAgain_0 : decode i_X9_comesAgain.2.1 0 = .ok (.aload_n 0, 1) := by decide +kernel
theorem d_X9_comesAgain_1 : decode i_X9_comesAgain.2.1 1 = .ok (.getfield 23, 3) := by decide +kernel
theorem d_X9_comesAgain_4 : decode i_X9_comesAgain.2.1 4 = .ok (.iconst 0, 1) := by decide +kernel
theorem d_X9_comesAgain_5 : decode i_X9_comesAgain.2.1 5 = .ok (.aaload, 1) := by decide +kernel
theorem d_X9_comesAgain_6 : decode i_X9_comesAgain.2.1 6 = .ok (.aload_n 1, 1) := by decide +kernel
theorem d_X9_comesAgain_7 : decode i_X9_comesAgain.2.1 7 = .ok (.invokevirtual 27, 3) := by decide +kernel
theorem d_X9_comesAgain_10 : decode i_X9_comesAgain.2.1 10 = .ok (.iconst 1, 1) := by decide +kernel
theorem d_X9_comesAgain_11 : decode i_X9_comesAgain.2.1 11 = .ok (.istore_n 2, 1) := by decide +kernel
theorem d_X9_comesAgain_12 : decode i_X9_comesAgain.2.1 12 = .ok (.iload_n 2, 1) := by decide +kernel
theorem d_X9_comesAgain_13 : decode i_X9_comesAgain.2.1 13 = .ok (.bipush 60, 2) := by decide +kernel
theorem d_X9_comesAgain_15 : decode i_X9_comesAgain.2.1 15 = .ok (.if_icmp .gt 46, 3) := by decide +kernel
theorem d_X9_comesAgain_18 : decode i_X9_comesAgain.2.1 18 = .ok (.iconst 3, 1) := by decide +kernel
theorem d_X9_comesAgain_19 : decode i_X9_comesAgain.2.1 19 = .ok (.aload_n 0, 1) := by decide +kernel
theorem d_X9_comesAgain_20 : decode i_X9_comesAgain.2.1 20 = .ok (.getfield 23, 3) := by decide +kernel
theorem d_X9_comesAgain_23 : decode i_X9_comesAgain.2.1 23 = .ok (.iload_n 2, 1) := by decide +kernel
theorem d_X9_comesAgain_24 : decode i_X9_comesAgain.2.1 24 = .ok (.iconst 1, 1) := by decide +kernel
theorem d_X9_comesAgain_25 : decode i_X9_comesAgain.2.1 25 = .ok (.isub, 1) := by decide +kernel
theorem d_X9_comesAgain_26 : decode i_X9_comesAgain.2.1 26 = .ok (.aaload, 1) := by decide +kernel
theorem d_X9_comesAgain_27 : decode i_X9_comesAgain.2.1 27 = .ok (.aload_n 0, 1) := by decide +kernel
theorem d_X9_comesAgain_28 : decode i_X9_comesAgain.2.1 28 = .ok (.getfield 23, 3) := by decide +kernel
theorem d_X9_comesAgain_31 : decode i_X9_comesAgain.2.1 31 = .ok (.iload_n 2, 1) := by decide +kernel
theorem d_X9_comesAgain_32 : decode i_X9_comesAgain.2.1 32 = .ok (.aaload, 1) := by decide +kernel
theorem d_X9_comesAgain_33 : decode i_X9_comesAgain.2.1 33 = .ok (.invokestatic 37, 3) := by decide +kernel
theorem d_X9_comesAgain_36 : decode i_X9_comesAgain.2.1 36 = .ok (.aload_n 0, 1) := by decide +kernel
theorem d_X9_comesAgain_37 : decode i_X9_comesAgain.2.1 37 = .ok (.aload_n 0, 1) := by decide +kernel
theorem d_X9_comesAgain_38 : decode i_X9_comesAgain.2.1 38 = .ok (.iload_n 2, 1) := by decide +kernel
theorem d_X9_comesAgain_39 : decode i_X9_comesAgain.2.1 39 = .ok (.invokevirtual 50, 3) := by decide +kernel
theorem d_X9_comesAgain_42 : decode i_X9_comesAgain.2.1 42 = .ok (.putfield 54, 3) := by decide +kernel
theorem d_X9_comesAgain_45 : decode i_X9_comesAgain.2.1 45 = .ok (.aload_n 0, 1) := by decide +kernel
theorem d_X9_comesAgain_46 : decode i_X9_comesAgain.2.1 46 = .ok (.getfield 54, 3) := by decide +kernel
theorem d_X9_comesAgain_49 : decode i_X9_comesAgain.2.1 49 = .ok (.iconst (-1), 1) := by decide +kernel
theorem d_X9_comesAgain_50 : decode i_X9_comesAgain.2.1 50 = .ok (.if_icmp .eq 5, 3) := by decide +kernel
theorem d_X9_comesAgain_53 : decode i_X9_comesAgain.2.1 53 = .ok (.iload_n 2, 1) := by decide +kernel
theorem d_X9_comesAgain_54 : decode i_X9_comesAgain.2.1 54 = .ok (.ireturn, 1) := by decide +kernel
theorem d_X9_comesAgain_55 : decode i_X9_comesAgain.2.1 55 = .ok (.iinc 2 1, 3) := by decide +kernel
theorem d_X9_comesAgain_58 : decode i_X9_comesAgain.2.1 58 = .ok (.goto (-46), 3) := by decide +kernel
theorem d_X9_comesAgain_61 : decode i_X9_comesAgain.2.1 61 = .ok (.iconst (-1), 1) := by decide +kernel
theorem d_X9_comesAgain_62 : decode i_X9_comesAgain.2.1 62 = .ok (.ireturn, 1) := by decide +kernel
def BLp_X9_comesAgain_12 (x0 : Nat) (P12 : Int → Hp → Prop) (x2 : Int) (h : Hp) (Q : Int → Hp → Prop) : Prop :=
  (60 < x2 → (Q (-1) h)) ∧ (¬ 60 < x2 → (hK h x0 = 8 ∧ (((-2147483648 : Int) ≤ x2 - 1 ∧ x2 - 1 ≤ (2147483647 : Int)) ∧ ((hK h (hR h x0 2) = 16 ∧ (0 : Int) ≤ x2 - 1 ∧ x2 - 1 < hL h (hR h x0 2)) ∧ (hK h x0 = 8 ∧ ((hK h (hR h x0 2) = 16 ∧ (0 : Int) ≤ x2 ∧ x2 < hL h (hR h x0 2)) ∧ (C_X7_say 3 (hR h (hR h x0 2) (x2 - 1)) (hR h (hR h x0 2) x2) h (fun h1 => (hK h1 x0 = 8 ∧ C_X9_firstLike x0 x2 h1 (fun r3 h2 => (hK h2 x0 = 8 ∧ ∀ h4 : Hp, h4 = wI h2 x0 3 r3 → (hK h4 x0 = 8 ∧ ((hI h4 x0 3 = (-1) → (((-2147483648 : Int) ≤ x2 + 1 ∧ x2 + 1 ≤ (2147483647 : Int)) ∧ (P12 (x2 + 1) h4))) ∧ (¬ hI h4 x0 3 = (-1) → (Q x2 h4)))))))))))))))
def Lp_X9_comesAgain_12 (x0 : Nat) (x2 : Int) (h : Hp) (Q : Int → Hp → Prop) : Prop := ∀ P12 : Int → Hp → Prop, (∀ (x2 : Int) (h : Hp), BLp_X9_comesAgain_12 x0 P12 x2 h Q → P12 x2 h) → P12 x2 h
theorem Lp_X9_comesAgain_12_ind {x0 : Nat} {Q : Int → Hp → Prop} (I : Int → Hp → Prop) (μ : Int → Hp → Nat) (hs : ∀ (P12 : Int → Hp → Prop) (x2 : Int) (h : Hp), I x2 h → (∀ (x2' : Int) (h' : Hp), I x2' h' → μ x2' h' < μ x2 h → P12 x2' h') → BLp_X9_comesAgain_12 x0 P12 x2 h Q) : ∀ (x2 : Int) (h : Hp), I x2 h → Lp_X9_comesAgain_12 x0 x2 h Q := by
  intro x2 h hI P12 hP
  have key : ∀ (n : Nat) (x2 : Int) (h : Hp), I x2 h → μ x2 h < n → P12 x2 h := by
    intro n
    induction n with
    | zero => intro x2 h _ hl; exact absurd hl (Nat.not_lt_zero _)
    | succ n ih => intro x2 h hi hl; exact hP x2 h (hs P12 x2 h hi (fun x2 h' hi' hl' => ih x2 h' hi' (by omega)))
  exact key _ x2 h hI (Nat.lt_succ_self _)
theorem GLp_X9_comesAgain_12 (x0 : Nat) (x2 : Int) (h : Hp) (Q : Int → Hp → Prop) (hV : Lp_X9_comesAgain_12 x0 x2 h Q) : Go i_X9_comesAgain 12 [(0, .inr (.inr x0)), (2, .inl x2)] [] h (qI Q) := by
  refine hV (fun x2 h => Go i_X9_comesAgain 12 [(0, .inr (.inr x0)), (2, .inl x2)] [] h (qI Q)) (fun x2 h hV => ?_)
  unfold BLp_X9_comesAgain_12 at hV
  have hP12 : ∀ (x2 : Int) (h : Hp), Go i_X9_comesAgain 12 [(0, .inr (.inr x0)), (2, .inl x2)] [] h (qI Q) → Go i_X9_comesAgain 12 [(0, .inr (.inr x0)), (2, .inl x2)] [] h (qI Q) := fun _ h z => z
  refine s_iload_n d_X9_comesAgain_12 rfl (ma 1 rfl) ?_
  refine s_bipush d_X9_comesAgain_13 (by decide) (okn rfl) ?_
  refine s_icmp_gt (tgt := 61) d_X9_comesAgain_15 (by decide) (fun c => ?_) (fun c => ?_)
  · have hV := hV.1 c
    refine s_iconst d_X9_comesAgain_61 (okn rfl) ?_
    exact s_iret d_X9_comesAgain_62 rfl rfl ⟨_, rfl, hV⟩
  · have hV := hV.2 c
    refine s_iconst d_X9_comesAgain_18 (okn rfl) ?_
    refine s_aload_n d_X9_comesAgain_19 rfl (ma 0 rfl) ?_
    obtain ⟨o, hV⟩ := hV
    refine f_RX9_23g rfl d_X9_comesAgain_20 o ?_
    refine s_iload_n d_X9_comesAgain_23 rfl (ma 1 rfl) ?_
    refine s_iconst d_X9_comesAgain_24 (okn rfl) ?_
    obtain ⟨o, hV⟩ := hV
    refine s_isub d_X9_comesAgain_25 o ?_
    obtain ⟨o, hV⟩ := hV
    refine s_aald d_X9_comesAgain_26 (Or.inl o.1) o.2.1 o.2.2 ?_
    refine s_aload_n d_X9_comesAgain_27 rfl (ma 0 rfl) ?_
    obtain ⟨o, hV⟩ := hV
    refine f_RX9_23g rfl d_X9_comesAgain_28 o ?_
    refine s_iload_n d_X9_comesAgain_31 rfl (ma 1 rfl) ?_
    obtain ⟨o, hV⟩ := hV
    refine s_aald d_X9_comesAgain_32 (Or.inl o.1) o.2.1 o.2.2 ?_
    refine v_RX9_37 rfl (Nat.le_of_ble_eq_true rfl) d_X9_comesAgain_33 (Nat.le_of_ble_eq_true rfl) hV (fun h1 hV => ?_)
    refine s_aload_n d_X9_comesAgain_36 rfl (ma 0 rfl) ?_
    refine s_aload_n d_X9_comesAgain_37 rfl (ma 0 rfl) ?_
    refine s_iload_n d_X9_comesAgain_38 rfl (ma 1 rfl) ?_
    obtain ⟨o, hV⟩ := hV
    refine v_RX9_50 rfl (Nat.le_of_ble_eq_true rfl) d_X9_comesAgain_39 o (Nat.le_of_ble_eq_true rfl) hV (fun r3 h2 hV => ?_)
    obtain ⟨o, hV⟩ := hV
    refine f_RX9_54p rfl d_X9_comesAgain_42 o (fun h4 eh4 => ?_)
    have hV := hV h4 eh4
    refine s_aload_n d_X9_comesAgain_45 rfl (ma 0 rfl) ?_
    obtain ⟨o, hV⟩ := hV
    refine f_RX9_54g rfl d_X9_comesAgain_46 o ?_
    refine s_iconst d_X9_comesAgain_49 (okn rfl) ?_
    refine s_icmp_eq (tgt := 55) d_X9_comesAgain_50 (by decide) (fun c => ?_) (fun c => ?_)
    · have hV := hV.1 c
      obtain ⟨o, hV⟩ := hV
      refine s_iinc (lv' := [(2, .inl (x2 + 1)), (0, .inr (.inr x0))]) d_X9_comesAgain_55 (ma 1 rfl) o (Nat.le_of_ble_eq_true rfl) rfl ?_
      refine s_goto (tgt := 12) d_X9_comesAgain_58 (by decide) ?_
      refine s_pick (lv' := [(0, .inr (.inr x0)), (2, .inl (x2 + 1))]) [1, 0] rfl ?_
      exact hP12 _ _ hV
    · have hV := hV.2 c
      refine s_iload_n d_X9_comesAgain_53 rfl (ma 1 rfl) ?_
      exact s_iret d_X9_comesAgain_54 rfl rfl ⟨_, rfl, hV⟩
def V_X9_comesAgain (x0 : Nat) (x1 : Nat) (h : Hp) (Q : Int → Hp → Prop) : Prop :=
  hK h x0 = 8 ∧ ((hK h (hR h x0 2) = 16 ∧ (0 : Int) ≤ 0 ∧ 0 < hL h (hR h x0 2)) ∧ (hK h (hR h (hR h x0 2) 0) = 2 ∧ C_X2_copyFrom (hR h (hR h x0 2) 0) x1 h (fun h1 => (Lp_X9_comesAgain_12 x0 1 h1 Q))))
theorem G_X9_comesAgain {x0 : Nat} {x1 : Nat} (h : Hp) (Q : Int → Hp → Prop) (hV : V_X9_comesAgain x0 x1 h Q) : C_X9_comesAgain x0 x1 h Q := by
  unfold V_X9_comesAgain at hV
  show Go i_X9_comesAgain 0 [(0, .inr (.inr x0)), (1, .inr (.inr x1))] [] h (qI Q)
  refine s_aload_n d_X9_comesAgain_0 rfl (ma 0 rfl) ?_
  obtain ⟨o, hV⟩ := hV
  refine f_RX9_23g rfl d_X9_comesAgain_1 o ?_
  refine s_iconst d_X9_comesAgain_4 (okn rfl) ?_
  obtain ⟨o, hV⟩ := hV
  refine s_aald d_X9_comesAgain_5 (Or.inl o.1) o.2.1 o.2.2 ?_
  refine s_aload_n d_X9_comesAgain_6 rfl (ma 1 rfl) ?_
  obtain ⟨o, hV⟩ := hV
  refine v_RX9_27 rfl (Nat.le_of_ble_eq_true rfl) d_X9_comesAgain_7 o (Nat.le_of_ble_eq_true rfl) hV (fun h1 hV => ?_)
  refine s_iconst d_X9_comesAgain_10 (okn rfl) ?_
  refine s_istore_n (lv' := [(2, .inl 1), (0, .inr (.inr x0)), (1, .inr (.inr x1))]) d_X9_comesAgain_11 rfl (Nat.le_of_ble_eq_true rfl) rfl ?_
  refine s_pick (lv' := [(0, .inr (.inr x0)), (2, .inl 1)]) [1, 0] rfl ?_
  exact GLp_X9_comesAgain_12 _ _ _ _ hV

theorem d_X9_firstLike_0 : decode i_X9_firstLike.2.1 0 = .ok (.iconst 0, 1) := by decide +kernel
theorem d_X9_firstLike_1 : decode i_X9_firstLike.2.1 1 = .ok (.istore_n 2, 1) := by decide +kernel
theorem d_X9_firstLike_2 : decode i_X9_firstLike.2.1 2 = .ok (.iload_n 2, 1) := by decide +kernel
theorem d_X9_firstLike_3 : decode i_X9_firstLike.2.1 3 = .ok (.iload_n 1, 1) := by decide +kernel
theorem d_X9_firstLike_4 : decode i_X9_firstLike.2.1 4 = .ok (.if_icmp .ge 29, 3) := by decide +kernel
theorem d_X9_firstLike_7 : decode i_X9_firstLike.2.1 7 = .ok (.aload_n 0, 1) := by decide +kernel
theorem d_X9_firstLike_8 : decode i_X9_firstLike.2.1 8 = .ok (.getfield 23, 3) := by decide +kernel
theorem d_X9_firstLike_11 : decode i_X9_firstLike.2.1 11 = .ok (.iload_n 2, 1) := by decide +kernel
theorem d_X9_firstLike_12 : decode i_X9_firstLike.2.1 12 = .ok (.aaload, 1) := by decide +kernel
theorem d_X9_firstLike_13 : decode i_X9_firstLike.2.1 13 = .ok (.aload_n 0, 1) := by decide +kernel
theorem d_X9_firstLike_14 : decode i_X9_firstLike.2.1 14 = .ok (.getfield 23, 3) := by decide +kernel
theorem d_X9_firstLike_17 : decode i_X9_firstLike.2.1 17 = .ok (.iload_n 1, 1) := by decide +kernel
theorem d_X9_firstLike_18 : decode i_X9_firstLike.2.1 18 = .ok (.aaload, 1) := by decide +kernel
theorem d_X9_firstLike_19 : decode i_X9_firstLike.2.1 19 = .ok (.invokevirtual 58, 3) := by decide +kernel
theorem d_X9_firstLike_22 : decode i_X9_firstLike.2.1 22 = .ok (.ifCond .eq 5, 3) := by decide +kernel
theorem d_X9_firstLike_25 : decode i_X9_firstLike.2.1 25 = .ok (.iload_n 2, 1) := by decide +kernel
theorem d_X9_firstLike_26 : decode i_X9_firstLike.2.1 26 = .ok (.ireturn, 1) := by decide +kernel
theorem d_X9_firstLike_27 : decode i_X9_firstLike.2.1 27 = .ok (.iinc 2 1, 3) := by decide +kernel
theorem d_X9_firstLike_30 : decode i_X9_firstLike.2.1 30 = .ok (.goto (-28), 3) := by decide +kernel
theorem d_X9_firstLike_33 : decode i_X9_firstLike.2.1 33 = .ok (.iconst (-1), 1) := by decide +kernel
theorem d_X9_firstLike_34 : decode i_X9_firstLike.2.1 34 = .ok (.ireturn, 1) := by decide +kernel
def BLp_X9_firstLike_2 (x0 : Nat) (x1 : Int) (P2 : Int → Hp → Prop) (x2 : Int) (h : Hp) (Q : Int → Hp → Prop) : Prop :=
  (x1 ≤ x2 → (Q (-1) h)) ∧ (¬ x1 ≤ x2 → (hK h x0 = 8 ∧ ((hK h (hR h x0 2) = 16 ∧ (0 : Int) ≤ x2 ∧ x2 < hL h (hR h x0 2)) ∧ (hK h x0 = 8 ∧ ((hK h (hR h x0 2) = 16 ∧ (0 : Int) ≤ x1 ∧ x1 < hL h (hR h x0 2)) ∧ (hK h (hR h (hR h x0 2) x2) = 2 ∧ C_X2_same (hR h (hR h x0 2) x2) (hR h (hR h x0 2) x1) h (fun r2 h1 => ((r2 = 0 → (((-2147483648 : Int) ≤ x2 + 1 ∧ x2 + 1 ≤ (2147483647 : Int)) ∧ (P2 (x2 + 1) h1))) ∧ (¬ r2 = 0 → (Q x2 h1))))))))))
def Lp_X9_firstLike_2 (x0 : Nat) (x1 : Int) (x2 : Int) (h : Hp) (Q : Int → Hp → Prop) : Prop := ∀ P2 : Int → Hp → Prop, (∀ (x2 : Int) (h : Hp), BLp_X9_firstLike_2 x0 x1 P2 x2 h Q → P2 x2 h) → P2 x2 h
theorem Lp_X9_firstLike_2_ind {x0 : Nat} {x1 : Int} {Q : Int → Hp → Prop} (I : Int → Hp → Prop) (μ : Int → Hp → Nat) (hs : ∀ (P2 : Int → Hp → Prop) (x2 : Int) (h : Hp), I x2 h → (∀ (x2' : Int) (h' : Hp), I x2' h' → μ x2' h' < μ x2 h → P2 x2' h') → BLp_X9_firstLike_2 x0 x1 P2 x2 h Q) : ∀ (x2 : Int) (h : Hp), I x2 h → Lp_X9_firstLike_2 x0 x1 x2 h Q := by
  intro x2 h hI P2 hP
  have key : ∀ (n : Nat) (x2 : Int) (h : Hp), I x2 h → μ x2 h < n → P2 x2 h := by
    intro n
    induction n with
    | zero => intro x2 h _ hl; exact absurd hl (Nat.not_lt_zero _)
    | succ n ih => intro x2 h hi hl; exact hP x2 h (hs P2 x2 h hi (fun x2 h' hi' hl' => ih x2 h' hi' (by omega)))
  exact key _ x2 h hI (Nat.lt_succ_self _)
theorem GLp_X9_firstLike_2 (x0 : Nat) (x1 : Int) (x2 : Int) (h : Hp) (Q : Int → Hp → Prop) (hV : Lp_X9_firstLike_2 x0 x1 x2 h Q) : Go i_X9_firstLike 2 [(0, .inr (.inr x0)), (1, .inl x1), (2, .inl x2)] [] h (qI Q) := by
  refine hV (fun x2 h => Go i_X9_firstLike 2 [(0, .inr (.inr x0)), (1, .inl x1), (2, .inl x2)] [] h (qI Q)) (fun x2 h hV => ?_)
  unfold BLp_X9_firstLike_2 at hV
  have hP2 : ∀ (x2 : Int) (h : Hp), Go i_X9_firstLike 2 [(0, .inr (.inr x0)), (1, .inl x1), (2, .inl x2)] [] h (qI Q) → Go i_X9_firstLike 2 [(0, .inr (.inr x0)), (1, .inl x1), (2, .inl x2)] [] h (qI Q) := fun _ h z => z
  refine s_iload_n d_X9_firstLike_2 rfl (ma 2 rfl) ?_
  refine s_iload_n d_X9_firstLike_3 rfl (ma 1 rfl) ?_
  refine s_icmp_ge (tgt := 33) d_X9_firstLike_4 (by decide) (fun c => ?_) (fun c => ?_)
  · have hV := hV.1 c
    refine s_iconst d_X9_firstLike_33 (okn rfl) ?_
    exact s_iret d_X9_firstLike_34 rfl rfl ⟨_, rfl, hV⟩
  · have hV := hV.2 c
    refine s_aload_n d_X9_firstLike_7 rfl (ma 0 rfl) ?_
    obtain ⟨o, hV⟩ := hV
    refine f_RX9_23g rfl d_X9_firstLike_8 o ?_
    refine s_iload_n d_X9_firstLike_11 rfl (ma 2 rfl) ?_
    obtain ⟨o, hV⟩ := hV
    refine s_aald d_X9_firstLike_12 (Or.inl o.1) o.2.1 o.2.2 ?_
    refine s_aload_n d_X9_firstLike_13 rfl (ma 0 rfl) ?_
    obtain ⟨o, hV⟩ := hV
    refine f_RX9_23g rfl d_X9_firstLike_14 o ?_
    refine s_iload_n d_X9_firstLike_17 rfl (ma 1 rfl) ?_
    obtain ⟨o, hV⟩ := hV
    refine s_aald d_X9_firstLike_18 (Or.inl o.1) o.2.1 o.2.2 ?_
    obtain ⟨o, hV⟩ := hV
    refine v_RX9_58 rfl (Nat.le_of_ble_eq_true rfl) d_X9_firstLike_19 o (Nat.le_of_ble_eq_true rfl) hV (fun r2 h1 hV => ?_)
    refine s_if_eq (tgt := 27) d_X9_firstLike_22 (by decide) (fun c => ?_) (fun c => ?_)
    · have hV := hV.1 c
      obtain ⟨o, hV⟩ := hV
      refine s_iinc (lv' := [(2, .inl (x2 + 1)), (0, .inr (.inr x0)), (1, .inl x1)]) d_X9_firstLike_27 (ma 2 rfl) o (Nat.le_of_ble_eq_true rfl) rfl ?_
      refine s_goto (tgt := 2) d_X9_firstLike_30 (by decide) ?_
      refine s_pick (lv' := [(0, .inr (.inr x0)), (1, .inl x1), (2, .inl (x2 + 1))]) [1, 2, 0] rfl ?_
      exact hP2 _ _ hV
    · have hV := hV.2 c
      refine s_iload_n d_X9_firstLike_25 rfl (ma 2 rfl) ?_
      exact s_iret d_X9_firstLike_26 rfl rfl ⟨_, rfl, hV⟩
def V_X9_firstLike (x0 : Nat) (x1 : Int) (h : Hp) (Q : Int → Hp → Prop) : Prop :=
  Lp_X9_firstLike_2 x0 x1 0 h Q
theorem G_X9_firstLike {x0 : Nat} {x1 : Int} (h : Hp) (Q : Int → Hp → Prop) (hV : V_X9_firstLike x0 x1 h Q) : C_X9_firstLike x0 x1 h Q := by
  unfold V_X9_firstLike at hV
  show Go i_X9_firstLike 0 [(0, .inr (.inr x0)), (1, .inl x1)] [] h (qI Q)
  refine s_iconst d_X9_firstLike_0 (okn rfl) ?_
  refine s_istore_n (lv' := [(2, .inl 0), (0, .inr (.inr x0)), (1, .inl x1)]) d_X9_firstLike_1 rfl (Nat.le_of_ble_eq_true rfl) rfl ?_
  refine s_pick (lv' := [(0, .inr (.inr x0)), (1, .inl x1), (2, .inl 0)]) [1, 2, 0] rfl ?_
  exact GLp_X9_firstLike_2 _ _ _ _ _ hV

theorem d_X9_goOld_0 : decode i_X9_goOld.2.1 0 = .ok (.aload_n 0, 1) := by decide +kernel
theorem d_X9_goOld_1 : decode i_X9_goOld.2.1 1 = .ok (.aload_n 1, 1) := by decide +kernel
theorem d_X9_goOld_2 : decode i_X9_goOld.2.1 2 = .ok (.invokevirtual 31, 3) := by decide +kernel
theorem d_X9_goOld_5 : decode i_X9_goOld.2.1 5 = .ok (.iconst 0, 1) := by decide +kernel
theorem d_X9_goOld_6 : decode i_X9_goOld.2.1 6 = .ok (.istore_n 2, 1) := by decide +kernel
theorem d_X9_goOld_7 : decode i_X9_goOld.2.1 7 = .ok (.iload_n 2, 1) := by decide +kernel
theorem d_X9_goOld_8 : decode i_X9_goOld.2.1 8 = .ok (.bipush 60, 2) := by decide +kernel
theorem d_X9_goOld_10 : decode i_X9_goOld.2.1 10 = .ok (.if_icmp .ge 60, 3) := by decide +kernel
theorem d_X9_goOld_13 : decode i_X9_goOld.2.1 13 = .ok (.aload_n 0, 1) := by decide +kernel
theorem d_X9_goOld_14 : decode i_X9_goOld.2.1 14 = .ok (.getfield 14, 3) := by decide +kernel
theorem d_X9_goOld_17 : decode i_X9_goOld.2.1 17 = .ok (.invokestatic 62, 3) := by decide +kernel
theorem d_X9_goOld_20 : decode i_X9_goOld.2.1 20 = .ok (.istore_n 3, 1) := by decide +kernel
theorem d_X9_goOld_21 : decode i_X9_goOld.2.1 21 = .ok (.iload_n 3, 1) := by decide +kernel
theorem d_X9_goOld_22 : decode i_X9_goOld.2.1 22 = .ok (.ifCond .le 9, 3) := by decide +kernel
theorem d_X9_goOld_25 : decode i_X9_goOld.2.1 25 = .ok (.iload_n 3, 1) := by decide +kernel
theorem d_X9_goOld_26 : decode i_X9_goOld.2.1 26 = .ok (.bipush 60, 2) := by decide +kernel
theorem d_X9_goOld_28 : decode i_X9_goOld.2.1 28 = .ok (.if_icmp .le 5, 3) := by decide +kernel
theorem d_X9_goOld_31 : decode i_X9_goOld.2.1 31 = .ok (.iload_n 2, 1) := by decide +kernel
theorem d_X9_goOld_32 : decode i_X9_goOld.2.1 32 = .ok (.ireturn, 1) := by decide +kernel
theorem d_X9_goOld_33 : decode i_X9_goOld.2.1 33 = .ok (.aload_n 0, 1) := by decide +kernel
theorem d_X9_goOld_34 : decode i_X9_goOld.2.1 34 = .ok (.getfield 14, 3) := by decide +kernel
theorem d_X9_goOld_37 : decode i_X9_goOld.2.1 37 = .ok (.aload_n 0, 1) := by decide +kernel
theorem d_X9_goOld_38 : decode i_X9_goOld.2.1 38 = .ok (.getfield 20, 3) := by decide +kernel
theorem d_X9_goOld_41 : decode i_X9_goOld.2.1 41 = .ok (.invokestatic 66, 3) := by decide +kernel
theorem d_X9_goOld_44 : decode i_X9_goOld.2.1 44 = .ok (.aload_n 0, 1) := by decide +kernel
theorem d_X9_goOld_45 : decode i_X9_goOld.2.1 45 = .ok (.getfield 20, 3) := by decide +kernel
theorem d_X9_goOld_48 : decode i_X9_goOld.2.1 48 = .ok (.aload_n 0, 1) := by decide +kernel
theorem d_X9_goOld_49 : decode i_X9_goOld.2.1 49 = .ok (.getfield 14, 3) := by decide +kernel
theorem d_X9_goOld_52 : decode i_X9_goOld.2.1 52 = .ok (.invokevirtual 58, 3) := by decide +kernel
theorem d_X9_goOld_55 : decode i_X9_goOld.2.1 55 = .ok (.ifCond .eq 5, 3) := by decide +kernel
theorem d_X9_goOld_58 : decode i_X9_goOld.2.1 58 = .ok (.iload_n 2, 1) := by decide +kernel
theorem d_X9_goOld_59 : decode i_X9_goOld.2.1 59 = .ok (.ireturn, 1) := by decide +kernel
theorem d_X9_goOld_60 : decode i_X9_goOld.2.1 60 = .ok (.aload_n 0, 1) := by decide +kernel
theorem d_X9_goOld_61 : decode i_X9_goOld.2.1 61 = .ok (.invokevirtual 43, 3) := by decide +kernel
theorem d_X9_goOld_64 : decode i_X9_goOld.2.1 64 = .ok (.iinc 2 1, 3) := by decide +kernel
theorem d_X9_goOld_67 : decode i_X9_goOld.2.1 67 = .ok (.goto (-60), 3) := by decide +kernel
theorem d_X9_goOld_70 : decode i_X9_goOld.2.1 70 = .ok (.bipush 60, 2) := by decide +kernel
theorem d_X9_goOld_72 : decode i_X9_goOld.2.1 72 = .ok (.ireturn, 1) := by decide +kernel
def BLp_X9_goOld_7 (x0 : Nat) (P7 : Int → Hp → Prop) (x2 : Int) (h : Hp) (Q : Int → Hp → Prop) : Prop :=
  (60 ≤ x2 → (Q 60 h)) ∧ (¬ 60 ≤ x2 → (hK h x0 = 8 ∧ (C_X7_sizeUnsaid (hR h x0 0) h (fun r2 h1 => ((r2 ≤ 0 → (Q x2 h1)) ∧ (¬ r2 ≤ 0 → ((r2 ≤ 60 → (hK h1 x0 = 8 ∧ (hK h1 x0 = 8 ∧ (C_X7_unsay (hR h1 x0 0) (hR h1 x0 1) h1 (fun h3 => (hK h3 x0 = 8 ∧ (hK h3 x0 = 8 ∧ (hK h3 (hR h3 x0 1) = 2 ∧ C_X2_same (hR h3 x0 1) (hR h3 x0 0) h3 (fun r5 h4 => ((r5 = 0 → (hK h4 x0 = 8 ∧ C_X9_swap x0  h4 (fun h6 => (((-2147483648 : Int) ≤ x2 + 1 ∧ x2 + 1 ≤ (2147483647 : Int)) ∧ (P7 (x2 + 1) h6))))) ∧ (¬ r5 = 0 → (Q x2 h4)))))))))))) ∧ (¬ r2 ≤ 60 → (Q x2 h1)))))))))
def Lp_X9_goOld_7 (x0 : Nat) (x2 : Int) (h : Hp) (Q : Int → Hp → Prop) : Prop := ∀ P7 : Int → Hp → Prop, (∀ (x2 : Int) (h : Hp), BLp_X9_goOld_7 x0 P7 x2 h Q → P7 x2 h) → P7 x2 h
theorem Lp_X9_goOld_7_ind {x0 : Nat} {Q : Int → Hp → Prop} (I : Int → Hp → Prop) (μ : Int → Hp → Nat) (hs : ∀ (P7 : Int → Hp → Prop) (x2 : Int) (h : Hp), I x2 h → (∀ (x2' : Int) (h' : Hp), I x2' h' → μ x2' h' < μ x2 h → P7 x2' h') → BLp_X9_goOld_7 x0 P7 x2 h Q) : ∀ (x2 : Int) (h : Hp), I x2 h → Lp_X9_goOld_7 x0 x2 h Q := by
  intro x2 h hI P7 hP
  have key : ∀ (n : Nat) (x2 : Int) (h : Hp), I x2 h → μ x2 h < n → P7 x2 h := by
    intro n
    induction n with
    | zero => intro x2 h _ hl; exact absurd hl (Nat.not_lt_zero _)
    | succ n ih => intro x2 h hi hl; exact hP x2 h (hs P7 x2 h hi (fun x2 h' hi' hl' => ih x2 h' hi' (by omega)))
  exact key _ x2 h hI (Nat.lt_succ_self _)
theorem GLp_X9_goOld_7 (x0 : Nat) (x2 : Int) (h : Hp) (Q : Int → Hp → Prop) (hV : Lp_X9_goOld_7 x0 x2 h Q) : Go i_X9_goOld 7 [(0, .inr (.inr x0)), (2, .inl x2)] [] h (qI Q) := by
  refine hV (fun x2 h => Go i_X9_goOld 7 [(0, .inr (.inr x0)), (2, .inl x2)] [] h (qI Q)) (fun x2 h hV => ?_)
  unfold BLp_X9_goOld_7 at hV
  have hP7 : ∀ (x2 : Int) (h : Hp), Go i_X9_goOld 7 [(0, .inr (.inr x0)), (2, .inl x2)] [] h (qI Q) → Go i_X9_goOld 7 [(0, .inr (.inr x0)), (2, .inl x2)] [] h (qI Q) := fun _ h z => z
  refine s_iload_n d_X9_goOld_7 rfl (ma 1 rfl) ?_
  refine s_bipush d_X9_goOld_8 (by decide) (okn rfl) ?_
  refine s_icmp_ge (tgt := 70) d_X9_goOld_10 (by decide) (fun c => ?_) (fun c => ?_)
  · have hV := hV.1 c
    refine s_bipush d_X9_goOld_70 (by decide) (okn rfl) ?_
    exact s_iret d_X9_goOld_72 rfl rfl ⟨_, rfl, hV⟩
  · have hV := hV.2 c
    refine s_aload_n d_X9_goOld_13 rfl (ma 0 rfl) ?_
    obtain ⟨o, hV⟩ := hV
    refine f_RX9_14g rfl d_X9_goOld_14 o ?_
    refine v_RX9_62 rfl (Nat.le_of_ble_eq_true rfl) d_X9_goOld_17 (Nat.le_of_ble_eq_true rfl) hV (fun r2 h1 hV => ?_)
    refine s_istore_n (lv' := [(3, .inl r2), (0, .inr (.inr x0)), (2, .inl x2)]) d_X9_goOld_20 rfl (Nat.le_of_ble_eq_true rfl) rfl ?_
    refine s_iload_n d_X9_goOld_21 rfl (ma 0 rfl) ?_
    refine s_if_le (tgt := 31) d_X9_goOld_22 (by decide) (fun c => ?_) (fun c => ?_)
    · have hV := hV.1 c
      refine s_iload_n d_X9_goOld_31 rfl (ma 2 rfl) ?_
      exact s_iret d_X9_goOld_32 rfl rfl ⟨_, rfl, hV⟩
    · have hV := hV.2 c
      refine s_iload_n d_X9_goOld_25 rfl (ma 0 rfl) ?_
      refine s_bipush d_X9_goOld_26 (by decide) (okn rfl) ?_
      refine s_icmp_le (tgt := 33) d_X9_goOld_28 (by decide) (fun c => ?_) (fun c => ?_)
      · have hV := hV.1 c
        refine s_aload_n d_X9_goOld_33 rfl (ma 1 rfl) ?_
        obtain ⟨o, hV⟩ := hV
        refine f_RX9_14g rfl d_X9_goOld_34 o ?_
        refine s_aload_n d_X9_goOld_37 rfl (ma 1 rfl) ?_
        obtain ⟨o, hV⟩ := hV
        refine f_RX9_20g rfl d_X9_goOld_38 o ?_
        refine v_RX9_66 rfl (Nat.le_of_ble_eq_true rfl) d_X9_goOld_41 (Nat.le_of_ble_eq_true rfl) hV (fun h3 hV => ?_)
        refine s_aload_n d_X9_goOld_44 rfl (ma 1 rfl) ?_
        obtain ⟨o, hV⟩ := hV
        refine f_RX9_20g rfl d_X9_goOld_45 o ?_
        refine s_aload_n d_X9_goOld_48 rfl (ma 1 rfl) ?_
        obtain ⟨o, hV⟩ := hV
        refine f_RX9_14g rfl d_X9_goOld_49 o ?_
        obtain ⟨o, hV⟩ := hV
        refine v_RX9_58 rfl (Nat.le_of_ble_eq_true rfl) d_X9_goOld_52 o (Nat.le_of_ble_eq_true rfl) hV (fun r5 h4 hV => ?_)
        refine s_if_eq (tgt := 60) d_X9_goOld_55 (by decide) (fun c => ?_) (fun c => ?_)
        · have hV := hV.1 c
          refine s_aload_n d_X9_goOld_60 rfl (ma 1 rfl) ?_
          obtain ⟨o, hV⟩ := hV
          refine v_RX9_43 rfl (Nat.le_of_ble_eq_true rfl) d_X9_goOld_61 o (Nat.le_of_ble_eq_true rfl) hV (fun h6 hV => ?_)
          obtain ⟨o, hV⟩ := hV
          refine s_iinc (lv' := [(2, .inl (x2 + 1)), (3, .inl r2), (0, .inr (.inr x0))]) d_X9_goOld_64 (ma 2 rfl) o (Nat.le_of_ble_eq_true rfl) rfl ?_
          refine s_goto (tgt := 7) d_X9_goOld_67 (by decide) ?_
          refine s_pick (lv' := [(0, .inr (.inr x0)), (2, .inl (x2 + 1))]) [2, 0] rfl ?_
          exact hP7 _ _ hV
        · have hV := hV.2 c
          refine s_iload_n d_X9_goOld_58 rfl (ma 2 rfl) ?_
          exact s_iret d_X9_goOld_59 rfl rfl ⟨_, rfl, hV⟩
      · have hV := hV.2 c
        refine s_iload_n d_X9_goOld_31 rfl (ma 2 rfl) ?_
        exact s_iret d_X9_goOld_32 rfl rfl ⟨_, rfl, hV⟩
def V_X9_goOld (x0 : Nat) (x1 : Nat) (h : Hp) (Q : Int → Hp → Prop) : Prop :=
  hK h x0 = 8 ∧ C_X9_begin x0 x1 h (fun h1 => (Lp_X9_goOld_7 x0 0 h1 Q))
theorem G_X9_goOld {x0 : Nat} {x1 : Nat} (h : Hp) (Q : Int → Hp → Prop) (hV : V_X9_goOld x0 x1 h Q) : C_X9_goOld x0 x1 h Q := by
  unfold V_X9_goOld at hV
  show Go i_X9_goOld 0 [(0, .inr (.inr x0)), (1, .inr (.inr x1))] [] h (qI Q)
  refine s_aload_n d_X9_goOld_0 rfl (ma 0 rfl) ?_
  refine s_aload_n d_X9_goOld_1 rfl (ma 1 rfl) ?_
  obtain ⟨o, hV⟩ := hV
  refine v_RX9_31 rfl (Nat.le_of_ble_eq_true rfl) d_X9_goOld_2 o (Nat.le_of_ble_eq_true rfl) hV (fun h1 hV => ?_)
  refine s_iconst d_X9_goOld_5 (okn rfl) ?_
  refine s_istore_n (lv' := [(2, .inl 0), (0, .inr (.inr x0)), (1, .inr (.inr x1))]) d_X9_goOld_6 rfl (Nat.le_of_ble_eq_true rfl) rfl ?_
  refine s_pick (lv' := [(0, .inr (.inr x0)), (2, .inl 0)]) [1, 0] rfl ?_
  exact GLp_X9_goOld_7 _ _ _ _ hV

theorem d_X5_init_0 : decode i_X5_init.2.1 0 = .ok (.aload_n 0, 1) := by decide +kernel
theorem d_X5_init_1 : decode i_X5_init.2.1 1 = .ok (.invokespecial 3, 3) := by decide +kernel
theorem d_X5_init_4 : decode i_X5_init.2.1 4 = .ok (.aload_n 0, 1) := by decide +kernel
theorem d_X5_init_5 : decode i_X5_init.2.1 5 = .ok (.bipush 60, 2) := by decide +kernel
theorem d_X5_init_7 : decode i_X5_init.2.1 7 = .ok (.newarray .int, 2) := by decide +kernel
theorem d_X5_init_9 : decode i_X5_init.2.1 9 = .ok (.putfield 9, 3) := by decide +kernel
theorem d_X5_init_12 : decode i_X5_init.2.1 12 = .ok (.aload_n 0, 1) := by decide +kernel
theorem d_X5_init_13 : decode i_X5_init.2.1 13 = .ok (.bipush 60, 2) := by decide +kernel
theorem d_X5_init_15 : decode i_X5_init.2.1 15 = .ok (.newarray .int, 2) := by decide +kernel
theorem d_X5_init_17 : decode i_X5_init.2.1 17 = .ok (.putfield 15, 3) := by decide +kernel
theorem d_X5_init_20 : decode i_X5_init.2.1 20 = .ok (.return_, 1) := by decide +kernel
def V_X5_init (x0 : Nat) (h : Hp) (Q : Hp → Prop) : Prop :=
  hK h x0 = 5 ∧ (((0 : Int) ≤ 60 ∧ 60 ≤ (100000000 : Int)) ∧ ∀ n1 : Nat, n1 = hN h → ∀ h2 : Hp, h2 = al h 12 60 (Int.toNat 60) → (hK h2 x0 = 5 ∧ ∀ h3 : Hp, h3 = wR h2 x0 0 n1 → (((0 : Int) ≤ 60 ∧ 60 ≤ (100000000 : Int)) ∧ ∀ n4 : Nat, n4 = hN h3 → ∀ h5 : Hp, h5 = al h3 12 60 (Int.toNat 60) → (hK h5 x0 = 5 ∧ ∀ h6 : Hp, h6 = wR h5 x0 1 n4 → (Q h6)))))
theorem G_X5_init {x0 : Nat} (h : Hp) (Q : Hp → Prop) (hV : V_X5_init x0 h Q) : C_X5_init x0 h Q := by
  unfold V_X5_init at hV
  show Go i_X5_init 0 [(0, .inr (.inr x0))] [] h (qV Q)
  refine s_aload_n d_X5_init_0 rfl (ma 0 rfl) ?_
  obtain ⟨o, hV⟩ := hV
  refine s_objInit d_X5_init_1 ob_RX5_3 (Nat.le_of_ble_eq_true rfl) rfl (by rw [o]; decide) ?_
  refine s_aload_n d_X5_init_4 rfl (ma 0 rfl) ?_
  refine s_bipush d_X5_init_5 (by decide) (okn rfl) ?_
  obtain ⟨o, hV⟩ := hV
  refine s_newi d_X5_init_7 ac_int o.1 o.2 ?_
  refine s_nmA (fun n1 en1 => ?_)
  refine s_nmH (fun h2 eh2 => ?_)
  have hV := hV n1 en1 h2 eh2
  obtain ⟨o, hV⟩ := hV
  refine f_RX5_9p rfl rfl d_X5_init_9 o (fun h3 eh3 => ?_)
  have hV := hV h3 eh3
  refine s_aload_n d_X5_init_12 rfl (ma 0 rfl) ?_
  refine s_bipush d_X5_init_13 (by decide) (okn rfl) ?_
  obtain ⟨o, hV⟩ := hV
  refine s_newi d_X5_init_15 ac_int o.1 o.2 ?_
  refine s_nmA (fun n4 en4 => ?_)
  refine s_nmH (fun h5 eh5 => ?_)
  have hV := hV n4 en4 h5 eh5
  obtain ⟨o, hV⟩ := hV
  refine f_RX5_15p rfl rfl d_X5_init_17 o (fun h6 eh6 => ?_)
  have hV := hV h6 eh6
  exact s_vret d_X5_init_20 rfl ⟨rfl, hV⟩

theorem d_X5_find_0 : decode i_X5_find.2.1 0 = .ok (.aload_n 0, 1) := by decide +kernel
theorem d_X5_find_1 : decode i_X5_find.2.1 1 = .ok (.iconst 0, 1) := by decide +kernel
theorem d_X5_find_2 : decode i_X5_find.2.1 2 = .ok (.putfield 18, 3) := by decide +kernel
theorem d_X5_find_5 : decode i_X5_find.2.1 5 = .ok (.iconst 1, 1) := by decide +kernel
theorem d_X5_find_6 : decode i_X5_find.2.1 6 = .ok (.istore_n 3, 1) := by decide +kernel
theorem d_X5_find_7 : decode i_X5_find.2.1 7 = .ok (.iload_n 3, 1) := by decide +kernel
theorem d_X5_find_8 : decode i_X5_find.2.1 8 = .ok (.aload_n 1, 1) := by decide +kernel
theorem d_X5_find_9 : decode i_X5_find.2.1 9 = .ok (.getfield 22, 3) := by decide +kernel
theorem d_X5_find_12 : decode i_X5_find.2.1 12 = .ok (.if_icmp .ge 45, 3) := by decide +kernel
theorem d_X5_find_15 : decode i_X5_find.2.1 15 = .ok (.iload_n 3, 1) := by decide +kernel
theorem d_X5_find_16 : decode i_X5_find.2.1 16 = .ok (.bipush 60, 2) := by decide +kernel
theorem d_X5_find_18 : decode i_X5_find.2.1 18 = .ok (.if_icmp .ge 39, 3) := by decide +kernel
theorem d_X5_find_21 : decode i_X5_find.2.1 21 = .ok (.aload_n 0, 1) := by decide +kernel
theorem d_X5_find_22 : decode i_X5_find.2.1 22 = .ok (.getfield 9, 3) := by decide +kernel
theorem d_X5_find_25 : decode i_X5_find.2.1 25 = .ok (.aload_n 0, 1) := by decide +kernel
theorem d_X5_find_26 : decode i_X5_find.2.1 26 = .ok (.getfield 18, 3) := by decide +kernel
theorem d_X5_find_29 : decode i_X5_find.2.1 29 = .ok (.iload_n 3, 1) := by decide +kernel
theorem d_X5_find_30 : decode i_X5_find.2.1 30 = .ok (.iastore, 1) := by decide +kernel
theorem d_X5_find_31 : decode i_X5_find.2.1 31 = .ok (.aload_n 0, 1) := by decide +kernel
theorem d_X5_find_32 : decode i_X5_find.2.1 32 = .ok (.getfield 15, 3) := by decide +kernel
theorem d_X5_find_35 : decode i_X5_find.2.1 35 = .ok (.aload_n 0, 1) := by decide +kernel
theorem d_X5_find_36 : decode i_X5_find.2.1 36 = .ok (.getfield 18, 3) := by decide +kernel
theorem d_X5_find_39 : decode i_X5_find.2.1 39 = .ok (.iload_n 3, 1) := by decide +kernel
theorem d_X5_find_40 : decode i_X5_find.2.1 40 = .ok (.iastore, 1) := by decide +kernel
theorem d_X5_find_41 : decode i_X5_find.2.1 41 = .ok (.aload_n 0, 1) := by decide +kernel
theorem d_X5_find_42 : decode i_X5_find.2.1 42 = .ok (.dup, 1) := by decide +kernel
theorem d_X5_find_43 : decode i_X5_find.2.1 43 = .ok (.getfield 18, 3) := by decide +kernel
theorem d_X5_find_46 : decode i_X5_find.2.1 46 = .ok (.iconst 1, 1) := by decide +kernel
theorem d_X5_find_47 : decode i_X5_find.2.1 47 = .ok (.iadd, 1) := by decide +kernel
theorem d_X5_find_48 : decode i_X5_find.2.1 48 = .ok (.putfield 18, 3) := by decide +kernel
theorem d_X5_find_51 : decode i_X5_find.2.1 51 = .ok (.iinc 3 1, 3) := by decide +kernel
theorem d_X5_find_54 : decode i_X5_find.2.1 54 = .ok (.goto (-47), 3) := by decide +kernel
theorem d_X5_find_57 : decode i_X5_find.2.1 57 = .ok (.aload_n 2, 1) := by decide +kernel
theorem d_X5_find_58 : decode i_X5_find.2.1 58 = .ok (.aload_n 1, 1) := by decide +kernel
theorem d_X5_find_59 : decode i_X5_find.2.1 59 = .ok (.invokevirtual 25, 3) := by decide +kernel
theorem d_X5_find_62 : decode i_X5_find.2.1 62 = .ok (.iconst 0, 1) := by decide +kernel
theorem d_X5_find_63 : decode i_X5_find.2.1 63 = .ok (.istore_n 3, 1) := by decide +kernel
theorem d_X5_find_64 : decode i_X5_find.2.1 64 = .ok (.iload_n 3, 1) := by decide +kernel
theorem d_X5_find_65 : decode i_X5_find.2.1 65 = .ok (.bipush 6, 2) := by decide +kernel
theorem d_X5_find_67 : decode i_X5_find.2.1 67 = .ok (.if_icmp .ge 22, 3) := by decide +kernel
theorem d_X5_find_70 : decode i_X5_find.2.1 70 = .ok (.aload_n 0, 1) := by decide +kernel
theorem d_X5_find_71 : decode i_X5_find.2.1 71 = .ok (.aload_n 2, 1) := by decide +kernel
theorem d_X5_find_72 : decode i_X5_find.2.1 72 = .ok (.getfield 31, 3) := by decide +kernel
theorem d_X5_find_75 : decode i_X5_find.2.1 75 = .ok (.invokevirtual 35, 3) := by decide +kernel
theorem d_X5_find_78 : decode i_X5_find.2.1 78 = .ok (.aload_n 2, 1) := by decide +kernel
theorem d_X5_find_79 : decode i_X5_find.2.1 79 = .ok (.iconst 0, 1) := by decide +kernel
theorem d_X5_find_80 : decode i_X5_find.2.1 80 = .ok (.invokevirtual 38, 3) := by decide +kernel
theorem d_X5_find_83 : decode i_X5_find.2.1 83 = .ok (.iinc 3 1, 3) := by decide +kernel
theorem d_X5_find_86 : decode i_X5_find.2.1 86 = .ok (.goto (-22), 3) := by decide +kernel
theorem d_X5_find_89 : decode i_X5_find.2.1 89 = .ok (.return_, 1) := by decide +kernel
def BLp_X5_find_64 (x0 : Nat) (x2 : Nat) (P64 : Int → Hp → Prop) (x3 : Int) (h : Hp) (Q : Hp → Prop) : Prop :=
  (6 ≤ x3 → (Q h)) ∧ (¬ 6 ≤ x3 → (hK h x2 = 8 ∧ (hK h x0 = 5 ∧ C_X5_follow x0 (hR h x2 0) h (fun h1 => (hK h1 x2 = 8 ∧ C_X9_step x2 0 h1 (fun h2 => (((-2147483648 : Int) ≤ x3 + 1 ∧ x3 + 1 ≤ (2147483647 : Int)) ∧ (P64 (x3 + 1) h2))))))))
def Lp_X5_find_64 (x0 : Nat) (x2 : Nat) (x3 : Int) (h : Hp) (Q : Hp → Prop) : Prop := ∀ P64 : Int → Hp → Prop, (∀ (x3 : Int) (h : Hp), BLp_X5_find_64 x0 x2 P64 x3 h Q → P64 x3 h) → P64 x3 h
theorem Lp_X5_find_64_ind {x0 : Nat} {x2 : Nat} {Q : Hp → Prop} (I : Int → Hp → Prop) (μ : Int → Hp → Nat) (hs : ∀ (P64 : Int → Hp → Prop) (x3 : Int) (h : Hp), I x3 h → (∀ (x3' : Int) (h' : Hp), I x3' h' → μ x3' h' < μ x3 h → P64 x3' h') → BLp_X5_find_64 x0 x2 P64 x3 h Q) : ∀ (x3 : Int) (h : Hp), I x3 h → Lp_X5_find_64 x0 x2 x3 h Q := by
  intro x3 h hI P64 hP
  have key : ∀ (n : Nat) (x3 : Int) (h : Hp), I x3 h → μ x3 h < n → P64 x3 h := by
    intro n
    induction n with
    | zero => intro x3 h _ hl; exact absurd hl (Nat.not_lt_zero _)
    | succ n ih => intro x3 h hi hl; exact hP x3 h (hs P64 x3 h hi (fun x3 h' hi' hl' => ih x3 h' hi' (by omega)))
  exact key _ x3 h hI (Nat.lt_succ_self _)
theorem GLp_X5_find_64 (x0 : Nat) (x2 : Nat) (x3 : Int) (h : Hp) (Q : Hp → Prop) (hV : Lp_X5_find_64 x0 x2 x3 h Q) : Go i_X5_find 64 [(0, .inr (.inr x0)), (2, .inr (.inr x2)), (3, .inl x3)] [] h (qV Q) := by
  refine hV (fun x3 h => Go i_X5_find 64 [(0, .inr (.inr x0)), (2, .inr (.inr x2)), (3, .inl x3)] [] h (qV Q)) (fun x3 h hV => ?_)
  unfold BLp_X5_find_64 at hV
  have hP64 : ∀ (x3 : Int) (h : Hp), Go i_X5_find 64 [(0, .inr (.inr x0)), (2, .inr (.inr x2)), (3, .inl x3)] [] h (qV Q) → Go i_X5_find 64 [(0, .inr (.inr x0)), (2, .inr (.inr x2)), (3, .inl x3)] [] h (qV Q) := fun _ h z => z
  refine s_iload_n d_X5_find_64 rfl (ma 2 rfl) ?_
  refine s_bipush d_X5_find_65 (by decide) (okn rfl) ?_
  refine s_icmp_ge (tgt := 89) d_X5_find_67 (by decide) (fun c => ?_) (fun c => ?_)
  · have hV := hV.1 c
    exact s_vret d_X5_find_89 rfl ⟨rfl, hV⟩
  · have hV := hV.2 c
    refine s_aload_n d_X5_find_70 rfl (ma 0 rfl) ?_
    refine s_aload_n d_X5_find_71 rfl (ma 1 rfl) ?_
    obtain ⟨o, hV⟩ := hV
    refine f_RX5_31g rfl d_X5_find_72 o ?_
    obtain ⟨o, hV⟩ := hV
    refine v_RX5_35 rfl (Nat.le_of_ble_eq_true rfl) d_X5_find_75 o (Nat.le_of_ble_eq_true rfl) hV (fun h1 hV => ?_)
    refine s_aload_n d_X5_find_78 rfl (ma 1 rfl) ?_
    refine s_iconst d_X5_find_79 (okn rfl) ?_
    obtain ⟨o, hV⟩ := hV
    refine v_RX5_38 rfl (Nat.le_of_ble_eq_true rfl) d_X5_find_80 o (Nat.le_of_ble_eq_true rfl) hV (fun h2 hV => ?_)
    obtain ⟨o, hV⟩ := hV
    refine s_iinc (lv' := [(3, .inl (x3 + 1)), (0, .inr (.inr x0)), (2, .inr (.inr x2))]) d_X5_find_83 (ma 2 rfl) o (Nat.le_of_ble_eq_true rfl) rfl ?_
    refine s_goto (tgt := 64) d_X5_find_86 (by decide) ?_
    refine s_pick (lv' := [(0, .inr (.inr x0)), (2, .inr (.inr x2)), (3, .inl (x3 + 1))]) [1, 2, 0] rfl ?_
    exact hP64 _ _ hV
def J_X5_find_57 (x0 : Nat) (x1 : Nat) (x2 : Nat) (h : Hp) (Q : Hp → Prop) : Prop :=
  hK h x2 = 8 ∧ C_X9_begin x2 x1 h (fun h1 => (Lp_X5_find_64 x0 x2 0 h1 Q))
theorem GJ_X5_find_57 (x0 : Nat) (x1 : Nat) (x2 : Nat) (h : Hp) (Q : Hp → Prop) (hV : J_X5_find_57 x0 x1 x2 h Q) : Go i_X5_find 57 [(0, .inr (.inr x0)), (1, .inr (.inr x1)), (2, .inr (.inr x2))] [] h (qV Q) := by
  unfold J_X5_find_57 at hV
  refine s_aload_n d_X5_find_57 rfl (ma 2 rfl) ?_
  refine s_aload_n d_X5_find_58 rfl (ma 1 rfl) ?_
  obtain ⟨o, hV⟩ := hV
  refine v_RX5_25 rfl (Nat.le_of_ble_eq_true rfl) d_X5_find_59 o (Nat.le_of_ble_eq_true rfl) hV (fun h1 hV => ?_)
  refine s_iconst d_X5_find_62 (okn rfl) ?_
  refine s_istore_n (lv' := [(3, .inl 0), (0, .inr (.inr x0)), (1, .inr (.inr x1)), (2, .inr (.inr x2))]) d_X5_find_63 rfl (Nat.le_of_ble_eq_true rfl) rfl ?_
  refine s_pick (lv' := [(0, .inr (.inr x0)), (2, .inr (.inr x2)), (3, .inl 0)]) [1, 3, 0] rfl ?_
  exact GLp_X5_find_64 _ _ _ _ _ hV
def BLp_X5_find_7 (x0 : Nat) (x1 : Nat) (x2 : Nat) (P7 : Int → Hp → Prop) (x3 : Int) (h : Hp) (Q : Hp → Prop) : Prop :=
  hK h x1 = 2 ∧ ((hI h x1 1 ≤ x3 → (J_X5_find_57 x0 x1 x2 h Q)) ∧ (¬ hI h x1 1 ≤ x3 → ((60 ≤ x3 → (J_X5_find_57 x0 x1 x2 h Q)) ∧ (¬ 60 ≤ x3 → (hK h x0 = 5 ∧ (hK h x0 = 5 ∧ ((hK h (hR h x0 0) = 12 ∧ (0 : Int) ≤ hI h x0 2 ∧ hI h x0 2 < hL h (hR h x0 0)) ∧ ∀ h1 : Hp, h1 = wI h (hR h x0 0) (hI h x0 2) x3 → (hK h1 x0 = 5 ∧ (hK h1 x0 = 5 ∧ ((hK h1 (hR h1 x0 1) = 12 ∧ (0 : Int) ≤ hI h1 x0 2 ∧ hI h1 x0 2 < hL h1 (hR h1 x0 1)) ∧ ∀ h2 : Hp, h2 = wI h1 (hR h1 x0 1) (hI h1 x0 2) x3 → (hK h2 x0 = 5 ∧ (((-2147483648 : Int) ≤ (hI h2 x0 2) + 1 ∧ (hI h2 x0 2) + 1 ≤ (2147483647 : Int)) ∧ (hK h2 x0 = 5 ∧ ∀ h3 : Hp, h3 = wI h2 x0 2 ((hI h2 x0 2) + 1) → (((-2147483648 : Int) ≤ x3 + 1 ∧ x3 + 1 ≤ (2147483647 : Int)) ∧ (P7 (x3 + 1) h3)))))))))))))))
def Lp_X5_find_7 (x0 : Nat) (x1 : Nat) (x2 : Nat) (x3 : Int) (h : Hp) (Q : Hp → Prop) : Prop := ∀ P7 : Int → Hp → Prop, (∀ (x3 : Int) (h : Hp), BLp_X5_find_7 x0 x1 x2 P7 x3 h Q → P7 x3 h) → P7 x3 h
theorem Lp_X5_find_7_ind {x0 : Nat} {x1 : Nat} {x2 : Nat} {Q : Hp → Prop} (I : Int → Hp → Prop) (μ : Int → Hp → Nat) (hs : ∀ (P7 : Int → Hp → Prop) (x3 : Int) (h : Hp), I x3 h → (∀ (x3' : Int) (h' : Hp), I x3' h' → μ x3' h' < μ x3 h → P7 x3' h') → BLp_X5_find_7 x0 x1 x2 P7 x3 h Q) : ∀ (x3 : Int) (h : Hp), I x3 h → Lp_X5_find_7 x0 x1 x2 x3 h Q := by
  intro x3 h hI P7 hP
  have key : ∀ (n : Nat) (x3 : Int) (h : Hp), I x3 h → μ x3 h < n → P7 x3 h := by
    intro n
    induction n with
    | zero => intro x3 h _ hl; exact absurd hl (Nat.not_lt_zero _)
    | succ n ih => intro x3 h hi hl; exact hP x3 h (hs P7 x3 h hi (fun x3 h' hi' hl' => ih x3 h' hi' (by omega)))
  exact key _ x3 h hI (Nat.lt_succ_self _)
theorem GLp_X5_find_7 (x0 : Nat) (x1 : Nat) (x2 : Nat) (x3 : Int) (h : Hp) (Q : Hp → Prop) (hV : Lp_X5_find_7 x0 x1 x2 x3 h Q) : Go i_X5_find 7 [(0, .inr (.inr x0)), (1, .inr (.inr x1)), (2, .inr (.inr x2)), (3, .inl x3)] [] h (qV Q) := by
  refine hV (fun x3 h => Go i_X5_find 7 [(0, .inr (.inr x0)), (1, .inr (.inr x1)), (2, .inr (.inr x2)), (3, .inl x3)] [] h (qV Q)) (fun x3 h hV => ?_)
  unfold BLp_X5_find_7 at hV
  have hP7 : ∀ (x3 : Int) (h : Hp), Go i_X5_find 7 [(0, .inr (.inr x0)), (1, .inr (.inr x1)), (2, .inr (.inr x2)), (3, .inl x3)] [] h (qV Q) → Go i_X5_find 7 [(0, .inr (.inr x0)), (1, .inr (.inr x1)), (2, .inr (.inr x2)), (3, .inl x3)] [] h (qV Q) := fun _ h z => z
  refine s_iload_n d_X5_find_7 rfl (ma 3 rfl) ?_
  refine s_aload_n d_X5_find_8 rfl (ma 1 rfl) ?_
  obtain ⟨o, hV⟩ := hV
  refine f_RX5_22g rfl d_X5_find_9 o ?_
  refine s_icmp_ge (tgt := 57) d_X5_find_12 (by decide) (fun c => ?_) (fun c => ?_)
  · have hV := hV.1 c
    refine s_pick (lv' := [(0, .inr (.inr x0)), (1, .inr (.inr x1)), (2, .inr (.inr x2))]) [0, 1, 2] rfl ?_
    exact GJ_X5_find_57 _ _ _ _ _ hV
  · have hV := hV.2 c
    refine s_iload_n d_X5_find_15 rfl (ma 3 rfl) ?_
    refine s_bipush d_X5_find_16 (by decide) (okn rfl) ?_
    refine s_icmp_ge (tgt := 57) d_X5_find_18 (by decide) (fun c => ?_) (fun c => ?_)
    · have hV := hV.1 c
      refine s_pick (lv' := [(0, .inr (.inr x0)), (1, .inr (.inr x1)), (2, .inr (.inr x2))]) [0, 1, 2] rfl ?_
      exact GJ_X5_find_57 _ _ _ _ _ hV
    · have hV := hV.2 c
      refine s_aload_n d_X5_find_21 rfl (ma 0 rfl) ?_
      obtain ⟨o, hV⟩ := hV
      refine f_RX5_9g rfl d_X5_find_22 o ?_
      refine s_aload_n d_X5_find_25 rfl (ma 0 rfl) ?_
      obtain ⟨o, hV⟩ := hV
      refine f_RX5_18g rfl d_X5_find_26 o ?_
      refine s_iload_n d_X5_find_29 rfl (ma 3 rfl) ?_
      obtain ⟨o, hV⟩ := hV
      refine s_iast d_X5_find_30 o.1 o.2.1 o.2.2 ?_
      refine s_nmH (fun h1 eh1 => ?_)
      have hV := hV h1 eh1
      refine s_aload_n d_X5_find_31 rfl (ma 0 rfl) ?_
      obtain ⟨o, hV⟩ := hV
      refine f_RX5_15g rfl d_X5_find_32 o ?_
      refine s_aload_n d_X5_find_35 rfl (ma 0 rfl) ?_
      obtain ⟨o, hV⟩ := hV
      refine f_RX5_18g rfl d_X5_find_36 o ?_
      refine s_iload_n d_X5_find_39 rfl (ma 3 rfl) ?_
      obtain ⟨o, hV⟩ := hV
      refine s_iast d_X5_find_40 o.1 o.2.1 o.2.2 ?_
      refine s_nmH (fun h2 eh2 => ?_)
      have hV := hV h2 eh2
      refine s_aload_n d_X5_find_41 rfl (ma 0 rfl) ?_
      refine s_dup d_X5_find_42 rfl ?_
      obtain ⟨o, hV⟩ := hV
      refine f_RX5_18g rfl d_X5_find_43 o ?_
      refine s_iconst d_X5_find_46 (okn rfl) ?_
      obtain ⟨o, hV⟩ := hV
      refine s_iadd d_X5_find_47 o ?_
      obtain ⟨o, hV⟩ := hV
      refine f_RX5_18p rfl d_X5_find_48 o (fun h3 eh3 => ?_)
      have hV := hV h3 eh3
      obtain ⟨o, hV⟩ := hV
      refine s_iinc (lv' := [(3, .inl (x3 + 1)), (0, .inr (.inr x0)), (1, .inr (.inr x1)), (2, .inr (.inr x2))]) d_X5_find_51 (ma 3 rfl) o (Nat.le_of_ble_eq_true rfl) rfl ?_
      refine s_goto (tgt := 7) d_X5_find_54 (by decide) ?_
      refine s_pick (lv' := [(0, .inr (.inr x0)), (1, .inr (.inr x1)), (2, .inr (.inr x2)), (3, .inl (x3 + 1))]) [1, 2, 3, 0] rfl ?_
      exact hP7 _ _ hV
def V_X5_find (x0 : Nat) (x1 : Nat) (x2 : Nat) (h : Hp) (Q : Hp → Prop) : Prop :=
  hK h x0 = 5 ∧ ∀ h1 : Hp, h1 = wI h x0 2 0 → (Lp_X5_find_7 x0 x1 x2 1 h1 Q)
theorem G_X5_find {x0 : Nat} {x1 : Nat} {x2 : Nat} (h : Hp) (Q : Hp → Prop) (hV : V_X5_find x0 x1 x2 h Q) : C_X5_find x0 x1 x2 h Q := by
  unfold V_X5_find at hV
  show Go i_X5_find 0 [(0, .inr (.inr x0)), (1, .inr (.inr x1)), (2, .inr (.inr x2))] [] h (qV Q)
  refine s_aload_n d_X5_find_0 rfl (ma 0 rfl) ?_
  refine s_iconst d_X5_find_1 (okn rfl) ?_
  obtain ⟨o, hV⟩ := hV
  refine f_RX5_18p rfl d_X5_find_2 o (fun h1 eh1 => ?_)
  have hV := hV h1 eh1
  refine s_iconst d_X5_find_5 (okn rfl) ?_
  refine s_istore_n (lv' := [(3, .inl 1), (0, .inr (.inr x0)), (1, .inr (.inr x1)), (2, .inr (.inr x2))]) d_X5_find_6 rfl (Nat.le_of_ble_eq_true rfl) rfl ?_
  refine s_pick (lv' := [(0, .inr (.inr x0)), (1, .inr (.inr x1)), (2, .inr (.inr x2)), (3, .inl 1)]) [1, 2, 3, 0] rfl ?_
  exact GLp_X5_find_7 _ _ _ _ _ _ hV

theorem d_X5_follow_0 : decode i_X5_follow.2.1 0 = .ok (.iconst 0, 1) := by decide +kernel
theorem d_X5_follow_1 : decode i_X5_follow.2.1 1 = .ok (.istore_n 2, 1) := by decide +kernel
theorem d_X5_follow_2 : decode i_X5_follow.2.1 2 = .ok (.iconst (-1), 1) := by decide +kernel
theorem d_X5_follow_3 : decode i_X5_follow.2.1 3 = .ok (.istore_n 3, 1) := by decide +kernel
theorem d_X5_follow_4 : decode i_X5_follow.2.1 4 = .ok (.iconst 0, 1) := by decide +kernel
theorem d_X5_follow_5 : decode i_X5_follow.2.1 5 = .ok (.istore 4, 2) := by decide +kernel
theorem d_X5_follow_7 : decode i_X5_follow.2.1 7 = .ok (.iconst 0, 1) := by decide +kernel
theorem d_X5_follow_8 : decode i_X5_follow.2.1 8 = .ok (.istore 5, 2) := by decide +kernel
theorem d_X5_follow_10 : decode i_X5_follow.2.1 10 = .ok (.iconst 0, 1) := by decide +kernel
theorem d_X5_follow_11 : decode i_X5_follow.2.1 11 = .ok (.istore 6, 2) := by decide +kernel
theorem d_X5_follow_13 : decode i_X5_follow.2.1 13 = .ok (.iconst 0, 1) := by decide +kernel
theorem d_X5_follow_14 : decode i_X5_follow.2.1 14 = .ok (.istore 7, 2) := by decide +kernel
theorem d_X5_follow_16 : decode i_X5_follow.2.1 16 = .ok (.iload 7, 2) := by decide +kernel
theorem d_X5_follow_18 : decode i_X5_follow.2.1 18 = .ok (.aload_n 1, 1) := by decide +kernel
theorem d_X5_follow_19 : decode i_X5_follow.2.1 19 = .ok (.getfield 22, 3) := by decide +kernel
theorem d_X5_follow_22 : decode i_X5_follow.2.1 22 = .ok (.if_icmp .ge 112, 3) := by decide +kernel
theorem d_X5_follow_25 : decode i_X5_follow.2.1 25 = .ok (.iload 5, 2) := by decide +kernel
theorem d_X5_follow_27 : decode i_X5_follow.2.1 27 = .ok (.aload_n 0, 1) := by decide +kernel
theorem d_X5_follow_28 : decode i_X5_follow.2.1 28 = .ok (.getfield 18, 3) := by decide +kernel
theorem d_X5_follow_31 : decode i_X5_follow.2.1 31 = .ok (.if_icmp .ge 103, 3) := by decide +kernel
theorem d_X5_follow_34 : decode i_X5_follow.2.1 34 = .ok (.aload_n 1, 1) := by decide +kernel
theorem d_X5_follow_35 : decode i_X5_follow.2.1 35 = .ok (.iload 7, 2) := by decide +kernel
theorem d_X5_follow_37 : decode i_X5_follow.2.1 37 = .ok (.invokevirtual 42, 3) := by decide +kernel
theorem d_X5_follow_40 : decode i_X5_follow.2.1 40 = .ok (.iload_n 3, 1) := by decide +kernel
theorem d_X5_follow_41 : decode i_X5_follow.2.1 41 = .ok (.if_icmp .eq 28, 3) := by decide +kernel
theorem d_X5_follow_44 : decode i_X5_follow.2.1 44 = .ok (.iload_n 2, 1) := by decide +kernel
theorem d_X5_follow_45 : decode i_X5_follow.2.1 45 = .ok (.iconst 2, 1) := by decide +kernel
theorem d_X5_follow_46 : decode i_X5_follow.2.1 46 = .ok (.iload 4, 2) := by decide +kernel
theorem d_X5_follow_48 : decode i_X5_follow.2.1 48 = .ok (.bipush 9, 2) := by decide +kernel
theorem d_X5_follow_50 : decode i_X5_follow.2.1 50 = .ok (.iadd, 1) := by decide +kernel
theorem d_X5_follow_51 : decode i_X5_follow.2.1 51 = .ok (.iconst 1, 1) := by decide +kernel
theorem d_X5_follow_52 : decode i_X5_follow.2.1 52 = .ok (.isub, 1) := by decide +kernel
theorem d_X5_follow_53 : decode i_X5_follow.2.1 53 = .ok (.bipush 9, 2) := by decide +kernel
theorem d_X5_follow_55 : decode i_X5_follow.2.1 55 = .ok (.idiv, 1) := by decide +kernel
theorem d_X5_follow_56 : decode i_X5_follow.2.1 56 = .ok (.imul, 1) := by decide +kernel
theorem d_X5_follow_57 : decode i_X5_follow.2.1 57 = .ok (.iadd, 1) := by decide +kernel
theorem d_X5_follow_58 : decode i_X5_follow.2.1 58 = .ok (.istore_n 2, 1) := by decide +kernel
theorem d_X5_follow_59 : decode i_X5_follow.2.1 59 = .ok (.aload_n 1, 1) := by decide +kernel
theorem d_X5_follow_60 : decode i_X5_follow.2.1 60 = .ok (.iload 7, 2) := by decide +kernel
theorem d_X5_follow_62 : decode i_X5_follow.2.1 62 = .ok (.invokevirtual 42, 3) := by decide +kernel
theorem d_X5_follow_65 : decode i_X5_follow.2.1 65 = .ok (.istore_n 3, 1) := by decide +kernel
theorem d_X5_follow_66 : decode i_X5_follow.2.1 66 = .ok (.iconst 0, 1) := by decide +kernel
theorem d_X5_follow_67 : decode i_X5_follow.2.1 67 = .ok (.istore 4, 2) := by decide +kernel
theorem d_X5_follow_69 : decode i_X5_follow.2.1 69 = .ok (.aload_n 0, 1) := by decide +kernel
theorem d_X5_follow_70 : decode i_X5_follow.2.1 70 = .ok (.getfield 15, 3) := by decide +kernel
theorem d_X5_follow_73 : decode i_X5_follow.2.1 73 = .ok (.iload 5, 2) := by decide +kernel
theorem d_X5_follow_75 : decode i_X5_follow.2.1 75 = .ok (.iaload, 1) := by decide +kernel
theorem d_X5_follow_76 : decode i_X5_follow.2.1 76 = .ok (.iload 7, 2) := by decide +kernel
theorem d_X5_follow_78 : decode i_X5_follow.2.1 78 = .ok (.if_icmp .ne 47, 3) := by decide +kernel
theorem d_X5_follow_81 : decode i_X5_follow.2.1 81 = .ok (.iload 4, 2) := by decide +kernel
theorem d_X5_follow_83 : decode i_X5_follow.2.1 83 = .ok (.bipush 9, 2) := by decide +kernel
theorem d_X5_follow_85 : decode i_X5_follow.2.1 85 = .ok (.irem, 1) := by decide +kernel
theorem d_X5_follow_86 : decode i_X5_follow.2.1 86 = .ok (.ifCond .ne 36, 3) := by decide +kernel
theorem d_X5_follow_89 : decode i_X5_follow.2.1 89 = .ok (.aload_n 0, 1) := by decide +kernel
theorem d_X5_follow_90 : decode i_X5_follow.2.1 90 = .ok (.getfield 9, 3) := by decide +kernel
theorem d_X5_follow_93 : decode i_X5_follow.2.1 93 = .ok (.iload 6, 2) := by decide +kernel
theorem d_X5_follow_95 : decode i_X5_follow.2.1 95 = .ok (.aload_n 0, 1) := by decide +kernel
theorem d_X5_follow_96 : decode i_X5_follow.2.1 96 = .ok (.getfield 9, 3) := by decide +kernel
theorem d_X5_follow_99 : decode i_X5_follow.2.1 99 = .ok (.iload 5, 2) := by decide +kernel
theorem d_X5_follow_101 : decode i_X5_follow.2.1 101 = .ok (.iaload, 1) := by decide +kernel
theorem d_X5_follow_102 : decode i_X5_follow.2.1 102 = .ok (.iastore, 1) := by decide +kernel
theorem d_X5_follow_103 : decode i_X5_follow.2.1 103 = .ok (.aload_n 0, 1) := by decide +kernel
theorem d_X5_follow_104 : decode i_X5_follow.2.1 104 = .ok (.getfield 15, 3) := by decide +kernel
theorem d_X5_follow_107 : decode i_X5_follow.2.1 107 = .ok (.iload 6, 2) := by decide +kernel
theorem d_X5_follow_109 : decode i_X5_follow.2.1 109 = .ok (.iload_n 2, 1) := by decide +kernel
theorem d_X5_follow_110 : decode i_X5_follow.2.1 110 = .ok (.iconst 2, 1) := by decide +kernel
theorem d_X5_follow_111 : decode i_X5_follow.2.1 111 = .ok (.iload 4, 2) := by decide +kernel
theorem d_X5_follow_113 : decode i_X5_follow.2.1 113 = .ok (.bipush 9, 2) := by decide +kernel
theorem d_X5_follow_115 : decode i_X5_follow.2.1 115 = .ok (.idiv, 1) := by decide +kernel
theorem d_X5_follow_116 : decode i_X5_follow.2.1 116 = .ok (.imul, 1) := by decide +kernel
theorem d_X5_follow_117 : decode i_X5_follow.2.1 117 = .ok (.iadd, 1) := by decide +kernel
theorem d_X5_follow_118 : decode i_X5_follow.2.1 118 = .ok (.iastore, 1) := by decide +kernel
theorem d_X5_follow_119 : decode i_X5_follow.2.1 119 = .ok (.iinc 6 1, 3) := by decide +kernel
theorem d_X5_follow_122 : decode i_X5_follow.2.1 122 = .ok (.iinc 5 1, 3) := by decide +kernel
theorem d_X5_follow_125 : decode i_X5_follow.2.1 125 = .ok (.iinc 4 1, 3) := by decide +kernel
theorem d_X5_follow_128 : decode i_X5_follow.2.1 128 = .ok (.iinc 7 1, 3) := by decide +kernel
theorem d_X5_follow_131 : decode i_X5_follow.2.1 131 = .ok (.goto (-115), 3) := by decide +kernel
theorem d_X5_follow_134 : decode i_X5_follow.2.1 134 = .ok (.aload_n 0, 1) := by decide +kernel
theorem d_X5_follow_135 : decode i_X5_follow.2.1 135 = .ok (.iload 6, 2) := by decide +kernel
theorem d_X5_follow_137 : decode i_X5_follow.2.1 137 = .ok (.putfield 18, 3) := by decide +kernel
theorem d_X5_follow_140 : decode i_X5_follow.2.1 140 = .ok (.return_, 1) := by decide +kernel
def J_X5_follow_69 (P16 : Int → Int → Int → Int → Int → Int → Hp → Prop) (x0 : Nat) (x1 : Nat) (x2 : Int) (x3 : Int) (x4 : Int) (x5 : Int) (x6 : Int) (x7 : Int) (h : Hp) (Q : Hp → Prop) : Prop :=
  hK h x0 = 5 ∧ ((hK h (hR h x0 1) = 12 ∧ (0 : Int) ≤ x5 ∧ x5 < hL h (hR h x0 1)) ∧ ((hI h (hR h x0 1) x5 ≠ x7 → (((-2147483648 : Int) ≤ x4 + 1 ∧ x4 + 1 ≤ (2147483647 : Int)) ∧ (((-2147483648 : Int) ≤ x7 + 1 ∧ x7 + 1 ≤ (2147483647 : Int)) ∧ (P16 x2 x3 (x4 + 1) x5 x6 (x7 + 1) h)))) ∧ (hI h (hR h x0 1) x5 = x7 → (((0 : Int) ≤ x4 ∧ (0 : Int) < 9) ∧ ((x4 % 9 ≠ 0 → (((-2147483648 : Int) ≤ x5 + 1 ∧ x5 + 1 ≤ (2147483647 : Int)) ∧ (((-2147483648 : Int) ≤ x4 + 1 ∧ x4 + 1 ≤ (2147483647 : Int)) ∧ (((-2147483648 : Int) ≤ x7 + 1 ∧ x7 + 1 ≤ (2147483647 : Int)) ∧ (P16 x2 x3 (x4 + 1) (x5 + 1) x6 (x7 + 1) h))))) ∧ (x4 % 9 = 0 → (hK h x0 = 5 ∧ (hK h x0 = 5 ∧ ((hK h (hR h x0 0) = 12 ∧ (0 : Int) ≤ x5 ∧ x5 < hL h (hR h x0 0)) ∧ ((hK h (hR h x0 0) = 12 ∧ (0 : Int) ≤ x6 ∧ x6 < hL h (hR h x0 0)) ∧ ∀ h1 : Hp, h1 = wI h (hR h x0 0) x6 (hI h (hR h x0 0) x5) → (hK h1 x0 = 5 ∧ (((0 : Int) ≤ x4 ∧ (0 : Int) < 9) ∧ (((-2147483648 : Int) ≤ 2 * (x4 / 9) ∧ 2 * (x4 / 9) ≤ (2147483647 : Int)) ∧ (((-2147483648 : Int) ≤ x2 + (2 * (x4 / 9)) ∧ x2 + (2 * (x4 / 9)) ≤ (2147483647 : Int)) ∧ ((hK h1 (hR h1 x0 1) = 12 ∧ (0 : Int) ≤ x6 ∧ x6 < hL h1 (hR h1 x0 1)) ∧ ∀ h2 : Hp, h2 = wI h1 (hR h1 x0 1) x6 (x2 + (2 * (x4 / 9))) → (((-2147483648 : Int) ≤ x6 + 1 ∧ x6 + 1 ≤ (2147483647 : Int)) ∧ (((-2147483648 : Int) ≤ x5 + 1 ∧ x5 + 1 ≤ (2147483647 : Int)) ∧ (((-2147483648 : Int) ≤ x4 + 1 ∧ x4 + 1 ≤ (2147483647 : Int)) ∧ (((-2147483648 : Int) ≤ x7 + 1 ∧ x7 + 1 ≤ (2147483647 : Int)) ∧ (P16 x2 x3 (x4 + 1) (x5 + 1) (x6 + 1) (x7 + 1) h2))))))))))))))))))))
theorem GJ_X5_follow_69 {P16 : Int → Int → Int → Int → Int → Int → Hp → Prop} (x0 : Nat) (x1 : Nat) (x2 : Int) (x3 : Int) (x4 : Int) (x5 : Int) (x6 : Int) (x7 : Int) (h : Hp) (Q : Hp → Prop) (hP16 : ∀ (m2 : Int) (m3 : Int) (m4 : Int) (m5 : Int) (m6 : Int) (m7 : Int) (h : Hp), P16 m2 m3 m4 m5 m6 m7 h → Go i_X5_follow 16 [(0, .inr (.inr x0)), (1, .inr (.inr x1)), (2, .inl m2), (3, .inl m3), (4, .inl m4), (5, .inl m5), (6, .inl m6), (7, .inl m7)] [] h (qV Q)) (hV : J_X5_follow_69 P16 x0 x1 x2 x3 x4 x5 x6 x7 h Q) : Go i_X5_follow 69 [(0, .inr (.inr x0)), (1, .inr (.inr x1)), (2, .inl x2), (3, .inl x3), (4, .inl x4), (5, .inl x5), (6, .inl x6), (7, .inl x7)] [] h (qV Q) := by
  unfold J_X5_follow_69 at hV
  refine s_aload_n d_X5_follow_69 rfl (ma 0 rfl) ?_
  obtain ⟨o, hV⟩ := hV
  refine f_RX5_15g rfl d_X5_follow_70 o ?_
  refine s_iload d_X5_follow_73 (ma 5 rfl) ?_
  obtain ⟨o, hV⟩ := hV
  refine s_iald d_X5_follow_75 o.1 o.2.1 o.2.2 ?_
  refine s_iload d_X5_follow_76 (ma 7 rfl) ?_
  refine s_icmp_ne (tgt := 125) d_X5_follow_78 (by decide) (fun c => ?_) (fun c => ?_)
  · have hV := hV.1 c
    obtain ⟨o, hV⟩ := hV
    refine s_iinc (lv' := [(4, .inl (x4 + 1)), (0, .inr (.inr x0)), (1, .inr (.inr x1)), (2, .inl x2), (3, .inl x3), (5, .inl x5), (6, .inl x6), (7, .inl x7)]) d_X5_follow_125 (ma 4 rfl) o (Nat.le_of_ble_eq_true rfl) rfl ?_
    obtain ⟨o, hV⟩ := hV
    refine s_iinc (lv' := [(7, .inl (x7 + 1)), (4, .inl (x4 + 1)), (0, .inr (.inr x0)), (1, .inr (.inr x1)), (2, .inl x2), (3, .inl x3), (5, .inl x5), (6, .inl x6)]) d_X5_follow_128 (ma 7 rfl) o (Nat.le_of_ble_eq_true rfl) rfl ?_
    refine s_goto (tgt := 16) d_X5_follow_131 (by decide) ?_
    refine s_pick (lv' := [(0, .inr (.inr x0)), (1, .inr (.inr x1)), (2, .inl x2), (3, .inl x3), (4, .inl (x4 + 1)), (5, .inl x5), (6, .inl x6), (7, .inl (x7 + 1))]) [2, 3, 4, 5, 1, 6, 7, 0] rfl ?_
    exact hP16 _ _ _ _ _ _ _ hV
  · have hV := hV.2 c
    refine s_iload d_X5_follow_81 (ma 4 rfl) ?_
    refine s_bipush d_X5_follow_83 (by decide) (okn rfl) ?_
    obtain ⟨o, hV⟩ := hV
    refine s_irem d_X5_follow_85 o.1 o.2 ?_
    refine s_if_ne (tgt := 122) d_X5_follow_86 (by decide) (fun c => ?_) (fun c => ?_)
    · have hV := hV.1 c
      obtain ⟨o, hV⟩ := hV
      refine s_iinc (lv' := [(5, .inl (x5 + 1)), (0, .inr (.inr x0)), (1, .inr (.inr x1)), (2, .inl x2), (3, .inl x3), (4, .inl x4), (6, .inl x6), (7, .inl x7)]) d_X5_follow_122 (ma 5 rfl) o (Nat.le_of_ble_eq_true rfl) rfl ?_
      obtain ⟨o, hV⟩ := hV
      refine s_iinc (lv' := [(4, .inl (x4 + 1)), (5, .inl (x5 + 1)), (0, .inr (.inr x0)), (1, .inr (.inr x1)), (2, .inl x2), (3, .inl x3), (6, .inl x6), (7, .inl x7)]) d_X5_follow_125 (ma 5 rfl) o (Nat.le_of_ble_eq_true rfl) rfl ?_
      obtain ⟨o, hV⟩ := hV
      refine s_iinc (lv' := [(7, .inl (x7 + 1)), (4, .inl (x4 + 1)), (5, .inl (x5 + 1)), (0, .inr (.inr x0)), (1, .inr (.inr x1)), (2, .inl x2), (3, .inl x3), (6, .inl x6)]) d_X5_follow_128 (ma 7 rfl) o (Nat.le_of_ble_eq_true rfl) rfl ?_
      refine s_goto (tgt := 16) d_X5_follow_131 (by decide) ?_
      refine s_pick (lv' := [(0, .inr (.inr x0)), (1, .inr (.inr x1)), (2, .inl x2), (3, .inl x3), (4, .inl (x4 + 1)), (5, .inl (x5 + 1)), (6, .inl x6), (7, .inl (x7 + 1))]) [3, 4, 5, 6, 1, 2, 7, 0] rfl ?_
      exact hP16 _ _ _ _ _ _ _ hV
    · have hV := hV.2 c
      refine s_aload_n d_X5_follow_89 rfl (ma 0 rfl) ?_
      obtain ⟨o, hV⟩ := hV
      refine f_RX5_9g rfl d_X5_follow_90 o ?_
      refine s_iload d_X5_follow_93 (ma 6 rfl) ?_
      refine s_aload_n d_X5_follow_95 rfl (ma 0 rfl) ?_
      obtain ⟨o, hV⟩ := hV
      refine f_RX5_9g rfl d_X5_follow_96 o ?_
      refine s_iload d_X5_follow_99 (ma 5 rfl) ?_
      obtain ⟨o, hV⟩ := hV
      refine s_iald d_X5_follow_101 o.1 o.2.1 o.2.2 ?_
      obtain ⟨o, hV⟩ := hV
      refine s_iast d_X5_follow_102 o.1 o.2.1 o.2.2 ?_
      refine s_nmH (fun h1 eh1 => ?_)
      have hV := hV h1 eh1
      refine s_aload_n d_X5_follow_103 rfl (ma 0 rfl) ?_
      obtain ⟨o, hV⟩ := hV
      refine f_RX5_15g rfl d_X5_follow_104 o ?_
      refine s_iload d_X5_follow_107 (ma 6 rfl) ?_
      refine s_iload_n d_X5_follow_109 rfl (ma 2 rfl) ?_
      refine s_iconst d_X5_follow_110 (okn rfl) ?_
      refine s_iload d_X5_follow_111 (ma 4 rfl) ?_
      refine s_bipush d_X5_follow_113 (by decide) (okn rfl) ?_
      obtain ⟨o, hV⟩ := hV
      refine s_idiv d_X5_follow_115 o.1 o.2 ?_
      obtain ⟨o, hV⟩ := hV
      refine s_imul d_X5_follow_116 o ?_
      obtain ⟨o, hV⟩ := hV
      refine s_iadd d_X5_follow_117 o ?_
      obtain ⟨o, hV⟩ := hV
      refine s_iast d_X5_follow_118 o.1 o.2.1 o.2.2 ?_
      refine s_nmH (fun h2 eh2 => ?_)
      have hV := hV h2 eh2
      obtain ⟨o, hV⟩ := hV
      refine s_iinc (lv' := [(6, .inl (x6 + 1)), (0, .inr (.inr x0)), (1, .inr (.inr x1)), (2, .inl x2), (3, .inl x3), (4, .inl x4), (5, .inl x5), (7, .inl x7)]) d_X5_follow_119 (ma 6 rfl) o (Nat.le_of_ble_eq_true rfl) rfl ?_
      obtain ⟨o, hV⟩ := hV
      refine s_iinc (lv' := [(5, .inl (x5 + 1)), (6, .inl (x6 + 1)), (0, .inr (.inr x0)), (1, .inr (.inr x1)), (2, .inl x2), (3, .inl x3), (4, .inl x4), (7, .inl x7)]) d_X5_follow_122 (ma 6 rfl) o (Nat.le_of_ble_eq_true rfl) rfl ?_
      obtain ⟨o, hV⟩ := hV
      refine s_iinc (lv' := [(4, .inl (x4 + 1)), (5, .inl (x5 + 1)), (6, .inl (x6 + 1)), (0, .inr (.inr x0)), (1, .inr (.inr x1)), (2, .inl x2), (3, .inl x3), (7, .inl x7)]) d_X5_follow_125 (ma 6 rfl) o (Nat.le_of_ble_eq_true rfl) rfl ?_
      obtain ⟨o, hV⟩ := hV
      refine s_iinc (lv' := [(7, .inl (x7 + 1)), (4, .inl (x4 + 1)), (5, .inl (x5 + 1)), (6, .inl (x6 + 1)), (0, .inr (.inr x0)), (1, .inr (.inr x1)), (2, .inl x2), (3, .inl x3)]) d_X5_follow_128 (ma 7 rfl) o (Nat.le_of_ble_eq_true rfl) rfl ?_
      refine s_goto (tgt := 16) d_X5_follow_131 (by decide) ?_
      refine s_pick (lv' := [(0, .inr (.inr x0)), (1, .inr (.inr x1)), (2, .inl x2), (3, .inl x3), (4, .inl (x4 + 1)), (5, .inl (x5 + 1)), (6, .inl (x6 + 1)), (7, .inl (x7 + 1))]) [4, 5, 6, 7, 1, 2, 3, 0] rfl ?_
      exact hP16 _ _ _ _ _ _ _ hV
def BLp_X5_follow_16 (x0 : Nat) (x1 : Nat) (P16 : Int → Int → Int → Int → Int → Int → Hp → Prop) (x2 : Int) (x3 : Int) (x4 : Int) (x5 : Int) (x6 : Int) (x7 : Int) (h : Hp) (Q : Hp → Prop) : Prop :=
  hK h x1 = 2 ∧ ((hI h x1 1 ≤ x7 → (hK h x0 = 5 ∧ ∀ h1 : Hp, h1 = wI h x0 2 x6 → (Q h1))) ∧ (¬ hI h x1 1 ≤ x7 → (hK h x0 = 5 ∧ ((hI h x0 2 ≤ x5 → (hK h x0 = 5 ∧ ∀ h2 : Hp, h2 = wI h x0 2 x6 → (Q h2))) ∧ (¬ hI h x0 2 ≤ x5 → (hK h x1 = 2 ∧ C_X2_get x1 x7 h (fun r4 h3 => ((r4 = x3 → (J_X5_follow_69 P16 x0 x1 x2 x3 x4 x5 x6 x7 h3 Q)) ∧ (¬ r4 = x3 → (((-2147483648 : Int) ≤ x4 + 9 ∧ x4 + 9 ≤ (2147483647 : Int)) ∧ (((-2147483648 : Int) ≤ (x4 + 9) - 1 ∧ (x4 + 9) - 1 ≤ (2147483647 : Int)) ∧ (((0 : Int) ≤ (x4 + 9) - 1 ∧ (0 : Int) < 9) ∧ (((-2147483648 : Int) ≤ 2 * (((x4 + 9) - 1) / 9) ∧ 2 * (((x4 + 9) - 1) / 9) ≤ (2147483647 : Int)) ∧ (((-2147483648 : Int) ≤ x2 + (2 * (((x4 + 9) - 1) / 9)) ∧ x2 + (2 * (((x4 + 9) - 1) / 9)) ≤ (2147483647 : Int)) ∧ (∀ x2_5 : Int, x2_5 = x2 + (2 * (((x4 + 9) - 1) / 9)) → (hK h3 x1 = 2 ∧ C_X2_get x1 x7 h3 (fun r7 h6 => (J_X5_follow_69 P16 x0 x1 x2_5 r7 0 x5 x6 x7 h6 Q))))))))))))))))))
def Lp_X5_follow_16 (x0 : Nat) (x1 : Nat) (x2 : Int) (x3 : Int) (x4 : Int) (x5 : Int) (x6 : Int) (x7 : Int) (h : Hp) (Q : Hp → Prop) : Prop := ∀ P16 : Int → Int → Int → Int → Int → Int → Hp → Prop, (∀ (x2 : Int) (x3 : Int) (x4 : Int) (x5 : Int) (x6 : Int) (x7 : Int) (h : Hp), BLp_X5_follow_16 x0 x1 P16 x2 x3 x4 x5 x6 x7 h Q → P16 x2 x3 x4 x5 x6 x7 h) → P16 x2 x3 x4 x5 x6 x7 h
theorem Lp_X5_follow_16_ind {x0 : Nat} {x1 : Nat} {Q : Hp → Prop} (I : Int → Int → Int → Int → Int → Int → Hp → Prop) (μ : Int → Int → Int → Int → Int → Int → Hp → Nat) (hs : ∀ (P16 : Int → Int → Int → Int → Int → Int → Hp → Prop) (x2 : Int) (x3 : Int) (x4 : Int) (x5 : Int) (x6 : Int) (x7 : Int) (h : Hp), I x2 x3 x4 x5 x6 x7 h → (∀ (x2' : Int) (x3' : Int) (x4' : Int) (x5' : Int) (x6' : Int) (x7' : Int) (h' : Hp), I x2' x3' x4' x5' x6' x7' h' → μ x2' x3' x4' x5' x6' x7' h' < μ x2 x3 x4 x5 x6 x7 h → P16 x2' x3' x4' x5' x6' x7' h') → BLp_X5_follow_16 x0 x1 P16 x2 x3 x4 x5 x6 x7 h Q) : ∀ (x2 : Int) (x3 : Int) (x4 : Int) (x5 : Int) (x6 : Int) (x7 : Int) (h : Hp), I x2 x3 x4 x5 x6 x7 h → Lp_X5_follow_16 x0 x1 x2 x3 x4 x5 x6 x7 h Q := by
  intro x2 x3 x4 x5 x6 x7 h hI P16 hP
  have key : ∀ (n : Nat) (x2 : Int) (x3 : Int) (x4 : Int) (x5 : Int) (x6 : Int) (x7 : Int) (h : Hp), I x2 x3 x4 x5 x6 x7 h → μ x2 x3 x4 x5 x6 x7 h < n → P16 x2 x3 x4 x5 x6 x7 h := by
    intro n
    induction n with
    | zero => intro x2 x3 x4 x5 x6 x7 h _ hl; exact absurd hl (Nat.not_lt_zero _)
    | succ n ih => intro x2 x3 x4 x5 x6 x7 h hi hl; exact hP x2 x3 x4 x5 x6 x7 h (hs P16 x2 x3 x4 x5 x6 x7 h hi (fun x2 x3 x4 x5 x6 x7 h' hi' hl' => ih x2 x3 x4 x5 x6 x7 h' hi' (by omega)))
  exact key _ x2 x3 x4 x5 x6 x7 h hI (Nat.lt_succ_self _)
theorem GLp_X5_follow_16 (x0 : Nat) (x1 : Nat) (x2 : Int) (x3 : Int) (x4 : Int) (x5 : Int) (x6 : Int) (x7 : Int) (h : Hp) (Q : Hp → Prop) (hV : Lp_X5_follow_16 x0 x1 x2 x3 x4 x5 x6 x7 h Q) : Go i_X5_follow 16 [(0, .inr (.inr x0)), (1, .inr (.inr x1)), (2, .inl x2), (3, .inl x3), (4, .inl x4), (5, .inl x5), (6, .inl x6), (7, .inl x7)] [] h (qV Q) := by
  refine hV (fun x2 x3 x4 x5 x6 x7 h => Go i_X5_follow 16 [(0, .inr (.inr x0)), (1, .inr (.inr x1)), (2, .inl x2), (3, .inl x3), (4, .inl x4), (5, .inl x5), (6, .inl x6), (7, .inl x7)] [] h (qV Q)) (fun x2 x3 x4 x5 x6 x7 h hV => ?_)
  unfold BLp_X5_follow_16 at hV
  have hP16 : ∀ (x2 : Int) (x3 : Int) (x4 : Int) (x5 : Int) (x6 : Int) (x7 : Int) (h : Hp), Go i_X5_follow 16 [(0, .inr (.inr x0)), (1, .inr (.inr x1)), (2, .inl x2), (3, .inl x3), (4, .inl x4), (5, .inl x5), (6, .inl x6), (7, .inl x7)] [] h (qV Q) → Go i_X5_follow 16 [(0, .inr (.inr x0)), (1, .inr (.inr x1)), (2, .inl x2), (3, .inl x3), (4, .inl x4), (5, .inl x5), (6, .inl x6), (7, .inl x7)] [] h (qV Q) := fun _ _ _ _ _ _ h z => z
  refine s_iload d_X5_follow_16 (ma 7 rfl) ?_
  refine s_aload_n d_X5_follow_18 rfl (ma 1 rfl) ?_
  obtain ⟨o, hV⟩ := hV
  refine f_RX5_22g rfl d_X5_follow_19 o ?_
  refine s_icmp_ge (tgt := 134) d_X5_follow_22 (by decide) (fun c => ?_) (fun c => ?_)
  · have hV := hV.1 c
    refine s_aload_n d_X5_follow_134 rfl (ma 0 rfl) ?_
    refine s_iload d_X5_follow_135 (ma 6 rfl) ?_
    obtain ⟨o, hV⟩ := hV
    refine f_RX5_18p rfl d_X5_follow_137 o (fun h1 eh1 => ?_)
    have hV := hV h1 eh1
    exact s_vret d_X5_follow_140 rfl ⟨rfl, hV⟩
  · have hV := hV.2 c
    refine s_iload d_X5_follow_25 (ma 5 rfl) ?_
    refine s_aload_n d_X5_follow_27 rfl (ma 0 rfl) ?_
    obtain ⟨o, hV⟩ := hV
    refine f_RX5_18g rfl d_X5_follow_28 o ?_
    refine s_icmp_ge (tgt := 134) d_X5_follow_31 (by decide) (fun c => ?_) (fun c => ?_)
    · have hV := hV.1 c
      refine s_aload_n d_X5_follow_134 rfl (ma 0 rfl) ?_
      refine s_iload d_X5_follow_135 (ma 6 rfl) ?_
      obtain ⟨o, hV⟩ := hV
      refine f_RX5_18p rfl d_X5_follow_137 o (fun h2 eh2 => ?_)
      have hV := hV h2 eh2
      exact s_vret d_X5_follow_140 rfl ⟨rfl, hV⟩
    · have hV := hV.2 c
      refine s_aload_n d_X5_follow_34 rfl (ma 1 rfl) ?_
      refine s_iload d_X5_follow_35 (ma 7 rfl) ?_
      obtain ⟨o, hV⟩ := hV
      refine v_RX5_42 rfl (Nat.le_of_ble_eq_true rfl) d_X5_follow_37 o (Nat.le_of_ble_eq_true rfl) hV (fun r4 h3 hV => ?_)
      refine s_iload_n d_X5_follow_40 rfl (ma 3 rfl) ?_
      refine s_icmp_eq (tgt := 69) d_X5_follow_41 (by decide) (fun c => ?_) (fun c => ?_)
      · have hV := hV.1 c
        exact GJ_X5_follow_69 _ _ _ _ _ _ _ _ _ _ (by intros; apply hP16; assumption) hV
      · have hV := hV.2 c
        refine s_iload_n d_X5_follow_44 rfl (ma 2 rfl) ?_
        refine s_iconst d_X5_follow_45 (okn rfl) ?_
        refine s_iload d_X5_follow_46 (ma 4 rfl) ?_
        refine s_bipush d_X5_follow_48 (by decide) (okn rfl) ?_
        obtain ⟨o, hV⟩ := hV
        refine s_iadd d_X5_follow_50 o ?_
        refine s_iconst d_X5_follow_51 (okn rfl) ?_
        obtain ⟨o, hV⟩ := hV
        refine s_isub d_X5_follow_52 o ?_
        refine s_bipush d_X5_follow_53 (by decide) (okn rfl) ?_
        obtain ⟨o, hV⟩ := hV
        refine s_idiv d_X5_follow_55 o.1 o.2 ?_
        obtain ⟨o, hV⟩ := hV
        refine s_imul d_X5_follow_56 o ?_
        obtain ⟨o, hV⟩ := hV
        refine s_iadd d_X5_follow_57 o ?_
        refine s_nmI (fun x2_5 ex2_5 => ?_)
        have hV := hV x2_5 ex2_5
        refine s_istore_n (lv' := [(2, .inl x2_5), (0, .inr (.inr x0)), (1, .inr (.inr x1)), (3, .inl x3), (4, .inl x4), (5, .inl x5), (6, .inl x6), (7, .inl x7)]) d_X5_follow_58 rfl (Nat.le_of_ble_eq_true rfl) rfl ?_
        refine s_aload_n d_X5_follow_59 rfl (ma 2 rfl) ?_
        refine s_iload d_X5_follow_60 (ma 7 rfl) ?_
        obtain ⟨o, hV⟩ := hV
        refine v_RX5_42 rfl (Nat.le_of_ble_eq_true rfl) d_X5_follow_62 o (Nat.le_of_ble_eq_true rfl) hV (fun r7 h6 hV => ?_)
        refine s_istore_n (lv' := [(3, .inl r7), (2, .inl x2_5), (0, .inr (.inr x0)), (1, .inr (.inr x1)), (4, .inl x4), (5, .inl x5), (6, .inl x6), (7, .inl x7)]) d_X5_follow_65 rfl (Nat.le_of_ble_eq_true rfl) rfl ?_
        refine s_iconst d_X5_follow_66 (okn rfl) ?_
        refine s_istore (lv' := [(4, .inl 0), (3, .inl r7), (2, .inl x2_5), (0, .inr (.inr x0)), (1, .inr (.inr x1)), (5, .inl x5), (6, .inl x6), (7, .inl x7)]) d_X5_follow_67 (Nat.le_of_ble_eq_true rfl) rfl ?_
        refine s_pick (lv' := [(0, .inr (.inr x0)), (1, .inr (.inr x1)), (2, .inl x2_5), (3, .inl r7), (4, .inl 0), (5, .inl x5), (6, .inl x6), (7, .inl x7)]) [3, 4, 2, 1, 0, 5, 6, 7] rfl ?_
        exact GJ_X5_follow_69 _ _ _ _ _ _ _ _ _ _ (by intros; apply hP16; assumption) hV
def V_X5_follow (x0 : Nat) (x1 : Nat) (h : Hp) (Q : Hp → Prop) : Prop :=
  Lp_X5_follow_16 x0 x1 0 (-1) 0 0 0 0 h Q
theorem G_X5_follow {x0 : Nat} {x1 : Nat} (h : Hp) (Q : Hp → Prop) (hV : V_X5_follow x0 x1 h Q) : C_X5_follow x0 x1 h Q := by
  unfold V_X5_follow at hV
  show Go i_X5_follow 0 [(0, .inr (.inr x0)), (1, .inr (.inr x1))] [] h (qV Q)
  refine s_iconst d_X5_follow_0 (okn rfl) ?_
  refine s_istore_n (lv' := [(2, .inl 0), (0, .inr (.inr x0)), (1, .inr (.inr x1))]) d_X5_follow_1 rfl (Nat.le_of_ble_eq_true rfl) rfl ?_
  refine s_iconst d_X5_follow_2 (okn rfl) ?_
  refine s_istore_n (lv' := [(3, .inl (-1)), (2, .inl 0), (0, .inr (.inr x0)), (1, .inr (.inr x1))]) d_X5_follow_3 rfl (Nat.le_of_ble_eq_true rfl) rfl ?_
  refine s_iconst d_X5_follow_4 (okn rfl) ?_
  refine s_istore (lv' := [(4, .inl 0), (3, .inl (-1)), (2, .inl 0), (0, .inr (.inr x0)), (1, .inr (.inr x1))]) d_X5_follow_5 (Nat.le_of_ble_eq_true rfl) rfl ?_
  refine s_iconst d_X5_follow_7 (okn rfl) ?_
  refine s_istore (lv' := [(5, .inl 0), (4, .inl 0), (3, .inl (-1)), (2, .inl 0), (0, .inr (.inr x0)), (1, .inr (.inr x1))]) d_X5_follow_8 (Nat.le_of_ble_eq_true rfl) rfl ?_
  refine s_iconst d_X5_follow_10 (okn rfl) ?_
  refine s_istore (lv' := [(6, .inl 0), (5, .inl 0), (4, .inl 0), (3, .inl (-1)), (2, .inl 0), (0, .inr (.inr x0)), (1, .inr (.inr x1))]) d_X5_follow_11 (Nat.le_of_ble_eq_true rfl) rfl ?_
  refine s_iconst d_X5_follow_13 (okn rfl) ?_
  refine s_istore (lv' := [(7, .inl 0), (6, .inl 0), (5, .inl 0), (4, .inl 0), (3, .inl (-1)), (2, .inl 0), (0, .inr (.inr x0)), (1, .inr (.inr x1))]) d_X5_follow_14 (Nat.le_of_ble_eq_true rfl) rfl ?_
  refine s_pick (lv' := [(0, .inr (.inr x0)), (1, .inr (.inr x1)), (2, .inl 0), (3, .inl (-1)), (4, .inl 0), (5, .inl 0), (6, .inl 0), (7, .inl 0)]) [6, 7, 5, 4, 3, 2, 1, 0] rfl ?_
  exact GLp_X5_follow_16 _ _ _ _ _ _ _ _ _ _ hV

theorem d_X5_firstPlace_0 : decode i_X5_firstPlace.2.1 0 = .ok (.aload_n 0, 1) := by decide +kernel
theorem d_X5_firstPlace_1 : decode i_X5_firstPlace.2.1 1 = .ok (.getfield 18, 3) := by decide +kernel
theorem d_X5_firstPlace_4 : decode i_X5_firstPlace.2.1 4 = .ok (.ifCond .le 12, 3) := by decide +kernel
theorem d_X5_firstPlace_7 : decode i_X5_firstPlace.2.1 7 = .ok (.aload_n 0, 1) := by decide +kernel
theorem d_X5_firstPlace_8 : decode i_X5_firstPlace.2.1 8 = .ok (.getfield 9, 3) := by decide +kernel
theorem d_X5_firstPlace_11 : decode i_X5_firstPlace.2.1 11 = .ok (.iconst 0, 1) := by decide +kernel
theorem d_X5_firstPlace_12 : decode i_X5_firstPlace.2.1 12 = .ok (.iaload, 1) := by decide +kernel
theorem d_X5_firstPlace_13 : decode i_X5_firstPlace.2.1 13 = .ok (.goto 4, 3) := by decide +kernel
theorem d_X5_firstPlace_16 : decode i_X5_firstPlace.2.1 16 = .ok (.iconst (-1), 1) := by decide +kernel
theorem d_X5_firstPlace_17 : decode i_X5_firstPlace.2.1 17 = .ok (.ireturn, 1) := by decide +kernel
def V_X5_firstPlace (x0 : Nat) (h : Hp) (Q : Int → Hp → Prop) : Prop :=
  hK h x0 = 5 ∧ ((hI h x0 2 ≤ 0 → (Q (-1) h)) ∧ (¬ hI h x0 2 ≤ 0 → (hK h x0 = 5 ∧ ((hK h (hR h x0 0) = 12 ∧ (0 : Int) ≤ 0 ∧ 0 < hL h (hR h x0 0)) ∧ (Q (hI h (hR h x0 0) 0) h)))))
theorem G_X5_firstPlace {x0 : Nat} (h : Hp) (Q : Int → Hp → Prop) (hV : V_X5_firstPlace x0 h Q) : C_X5_firstPlace x0 h Q := by
  unfold V_X5_firstPlace at hV
  show Go i_X5_firstPlace 0 [(0, .inr (.inr x0))] [] h (qI Q)
  refine s_aload_n d_X5_firstPlace_0 rfl (ma 0 rfl) ?_
  obtain ⟨o, hV⟩ := hV
  refine f_RX5_18g rfl d_X5_firstPlace_1 o ?_
  refine s_if_le (tgt := 16) d_X5_firstPlace_4 (by decide) (fun c => ?_) (fun c => ?_)
  · have hV := hV.1 c
    refine s_iconst d_X5_firstPlace_16 (okn rfl) ?_
    exact s_iret d_X5_firstPlace_17 rfl rfl ⟨_, rfl, hV⟩
  · have hV := hV.2 c
    refine s_aload_n d_X5_firstPlace_7 rfl (ma 0 rfl) ?_
    obtain ⟨o, hV⟩ := hV
    refine f_RX5_9g rfl d_X5_firstPlace_8 o ?_
    refine s_iconst d_X5_firstPlace_11 (okn rfl) ?_
    obtain ⟨o, hV⟩ := hV
    refine s_iald d_X5_firstPlace_12 o.1 o.2.1 o.2.2 ?_
    refine s_goto (tgt := 17) d_X5_firstPlace_13 (by decide) ?_
    exact s_iret d_X5_firstPlace_17 rfl rfl ⟨_, rfl, hV⟩

theorem d_X5_longestPart_0 : decode i_X5_longestPart.2.1 0 = .ok (.iconst 0, 1) := by decide +kernel
theorem d_X5_longestPart_1 : decode i_X5_longestPart.2.1 1 = .ok (.istore_n 2, 1) := by decide +kernel
theorem d_X5_longestPart_2 : decode i_X5_longestPart.2.1 2 = .ok (.iconst 0, 1) := by decide +kernel
theorem d_X5_longestPart_3 : decode i_X5_longestPart.2.1 3 = .ok (.istore_n 3, 1) := by decide +kernel
theorem d_X5_longestPart_4 : decode i_X5_longestPart.2.1 4 = .ok (.iconst 0, 1) := by decide +kernel
theorem d_X5_longestPart_5 : decode i_X5_longestPart.2.1 5 = .ok (.istore 4, 2) := by decide +kernel
theorem d_X5_longestPart_7 : decode i_X5_longestPart.2.1 7 = .ok (.iload 4, 2) := by decide +kernel
theorem d_X5_longestPart_9 : decode i_X5_longestPart.2.1 9 = .ok (.aload_n 0, 1) := by decide +kernel
theorem d_X5_longestPart_10 : decode i_X5_longestPart.2.1 10 = .ok (.getfield 18, 3) := by decide +kernel
theorem d_X5_longestPart_13 : decode i_X5_longestPart.2.1 13 = .ok (.if_icmp .ge 31, 3) := by decide +kernel
theorem d_X5_longestPart_16 : decode i_X5_longestPart.2.1 16 = .ok (.iload_n 2, 1) := by decide +kernel
theorem d_X5_longestPart_17 : decode i_X5_longestPart.2.1 17 = .ok (.aload_n 0, 1) := by decide +kernel
theorem d_X5_longestPart_18 : decode i_X5_longestPart.2.1 18 = .ok (.getfield 9, 3) := by decide +kernel
theorem d_X5_longestPart_21 : decode i_X5_longestPart.2.1 21 = .ok (.iload 4, 2) := by decide +kernel
theorem d_X5_longestPart_23 : decode i_X5_longestPart.2.1 23 = .ok (.iaload, 1) := by decide +kernel
theorem d_X5_longestPart_24 : decode i_X5_longestPart.2.1 24 = .ok (.iload_n 3, 1) := by decide +kernel
theorem d_X5_longestPart_25 : decode i_X5_longestPart.2.1 25 = .ok (.isub, 1) := by decide +kernel
theorem d_X5_longestPart_26 : decode i_X5_longestPart.2.1 26 = .ok (.invokestatic 46, 3) := by decide +kernel
theorem d_X5_longestPart_29 : decode i_X5_longestPart.2.1 29 = .ok (.istore_n 2, 1) := by decide +kernel
theorem d_X5_longestPart_30 : decode i_X5_longestPart.2.1 30 = .ok (.aload_n 0, 1) := by decide +kernel
theorem d_X5_longestPart_31 : decode i_X5_longestPart.2.1 31 = .ok (.getfield 9, 3) := by decide +kernel
theorem d_X5_longestPart_34 : decode i_X5_longestPart.2.1 34 = .ok (.iload 4, 2) := by decide +kernel
theorem d_X5_longestPart_36 : decode i_X5_longestPart.2.1 36 = .ok (.iaload, 1) := by decide +kernel
theorem d_X5_longestPart_37 : decode i_X5_longestPart.2.1 37 = .ok (.istore_n 3, 1) := by decide +kernel
theorem d_X5_longestPart_38 : decode i_X5_longestPart.2.1 38 = .ok (.iinc 4 1, 3) := by decide +kernel
theorem d_X5_longestPart_41 : decode i_X5_longestPart.2.1 41 = .ok (.goto (-34), 3) := by decide +kernel
theorem d_X5_longestPart_44 : decode i_X5_longestPart.2.1 44 = .ok (.iload_n 2, 1) := by decide +kernel
theorem d_X5_longestPart_45 : decode i_X5_longestPart.2.1 45 = .ok (.iload_n 1, 1) := by decide +kernel
theorem d_X5_longestPart_46 : decode i_X5_longestPart.2.1 46 = .ok (.iload_n 3, 1) := by decide +kernel
theorem d_X5_longestPart_47 : decode i_X5_longestPart.2.1 47 = .ok (.isub, 1) := by decide +kernel
theorem d_X5_longestPart_48 : decode i_X5_longestPart.2.1 48 = .ok (.invokestatic 46, 3) := by decide +kernel
theorem d_X5_longestPart_51 : decode i_X5_longestPart.2.1 51 = .ok (.ireturn, 1) := by decide +kernel
def BLp_X5_longestPart_7 (x0 : Nat) (x1 : Int) (P7 : Int → Int → Int → Hp → Prop) (x2 : Int) (x3 : Int) (x4 : Int) (h : Hp) (Q : Int → Hp → Prop) : Prop :=
  hK h x0 = 5 ∧ ((hI h x0 2 ≤ x4 → (((-2147483648 : Int) ≤ x1 - x3 ∧ x1 - x3 ≤ (2147483647 : Int)) ∧ (Q (max x2 (x1 - x3)) h))) ∧ (¬ hI h x0 2 ≤ x4 → (hK h x0 = 5 ∧ ((hK h (hR h x0 0) = 12 ∧ (0 : Int) ≤ x4 ∧ x4 < hL h (hR h x0 0)) ∧ (((-2147483648 : Int) ≤ (hI h (hR h x0 0) x4) - x3 ∧ (hI h (hR h x0 0) x4) - x3 ≤ (2147483647 : Int)) ∧ (∀ x2_1 : Int, x2_1 = max x2 ((hI h (hR h x0 0) x4) - x3) → (hK h x0 = 5 ∧ ((hK h (hR h x0 0) = 12 ∧ (0 : Int) ≤ x4 ∧ x4 < hL h (hR h x0 0)) ∧ (∀ x3_2 : Int, x3_2 = hI h (hR h x0 0) x4 → (((-2147483648 : Int) ≤ x4 + 1 ∧ x4 + 1 ≤ (2147483647 : Int)) ∧ (P7 x2_1 x3_2 (x4 + 1) h)))))))))))
def Lp_X5_longestPart_7 (x0 : Nat) (x1 : Int) (x2 : Int) (x3 : Int) (x4 : Int) (h : Hp) (Q : Int → Hp → Prop) : Prop := ∀ P7 : Int → Int → Int → Hp → Prop, (∀ (x2 : Int) (x3 : Int) (x4 : Int) (h : Hp), BLp_X5_longestPart_7 x0 x1 P7 x2 x3 x4 h Q → P7 x2 x3 x4 h) → P7 x2 x3 x4 h
theorem Lp_X5_longestPart_7_ind {x0 : Nat} {x1 : Int} {Q : Int → Hp → Prop} (I : Int → Int → Int → Hp → Prop) (μ : Int → Int → Int → Hp → Nat) (hs : ∀ (P7 : Int → Int → Int → Hp → Prop) (x2 : Int) (x3 : Int) (x4 : Int) (h : Hp), I x2 x3 x4 h → (∀ (x2' : Int) (x3' : Int) (x4' : Int) (h' : Hp), I x2' x3' x4' h' → μ x2' x3' x4' h' < μ x2 x3 x4 h → P7 x2' x3' x4' h') → BLp_X5_longestPart_7 x0 x1 P7 x2 x3 x4 h Q) : ∀ (x2 : Int) (x3 : Int) (x4 : Int) (h : Hp), I x2 x3 x4 h → Lp_X5_longestPart_7 x0 x1 x2 x3 x4 h Q := by
  intro x2 x3 x4 h hI P7 hP
  have key : ∀ (n : Nat) (x2 : Int) (x3 : Int) (x4 : Int) (h : Hp), I x2 x3 x4 h → μ x2 x3 x4 h < n → P7 x2 x3 x4 h := by
    intro n
    induction n with
    | zero => intro x2 x3 x4 h _ hl; exact absurd hl (Nat.not_lt_zero _)
    | succ n ih => intro x2 x3 x4 h hi hl; exact hP x2 x3 x4 h (hs P7 x2 x3 x4 h hi (fun x2 x3 x4 h' hi' hl' => ih x2 x3 x4 h' hi' (by omega)))
  exact key _ x2 x3 x4 h hI (Nat.lt_succ_self _)
theorem GLp_X5_longestPart_7 (x0 : Nat) (x1 : Int) (x2 : Int) (x3 : Int) (x4 : Int) (h : Hp) (Q : Int → Hp → Prop) (hV : Lp_X5_longestPart_7 x0 x1 x2 x3 x4 h Q) : Go i_X5_longestPart 7 [(0, .inr (.inr x0)), (1, .inl x1), (2, .inl x2), (3, .inl x3), (4, .inl x4)] [] h (qI Q) := by
  refine hV (fun x2 x3 x4 h => Go i_X5_longestPart 7 [(0, .inr (.inr x0)), (1, .inl x1), (2, .inl x2), (3, .inl x3), (4, .inl x4)] [] h (qI Q)) (fun x2 x3 x4 h hV => ?_)
  unfold BLp_X5_longestPart_7 at hV
  have hP7 : ∀ (x2 : Int) (x3 : Int) (x4 : Int) (h : Hp), Go i_X5_longestPart 7 [(0, .inr (.inr x0)), (1, .inl x1), (2, .inl x2), (3, .inl x3), (4, .inl x4)] [] h (qI Q) → Go i_X5_longestPart 7 [(0, .inr (.inr x0)), (1, .inl x1), (2, .inl x2), (3, .inl x3), (4, .inl x4)] [] h (qI Q) := fun _ _ _ h z => z
  refine s_iload d_X5_longestPart_7 (ma 4 rfl) ?_
  refine s_aload_n d_X5_longestPart_9 rfl (ma 0 rfl) ?_
  obtain ⟨o, hV⟩ := hV
  refine f_RX5_18g rfl d_X5_longestPart_10 o ?_
  refine s_icmp_ge (tgt := 44) d_X5_longestPart_13 (by decide) (fun c => ?_) (fun c => ?_)
  · have hV := hV.1 c
    refine s_iload_n d_X5_longestPart_44 rfl (ma 2 rfl) ?_
    refine s_iload_n d_X5_longestPart_45 rfl (ma 1 rfl) ?_
    refine s_iload_n d_X5_longestPart_46 rfl (ma 3 rfl) ?_
    obtain ⟨o, hV⟩ := hV
    refine s_isub d_X5_longestPart_47 o ?_
    refine s_mmax d_X5_longestPart_48 mm_RX5_46 (Nat.le_of_ble_eq_true rfl) (Nat.le_of_ble_eq_true rfl) ?_
    exact s_iret d_X5_longestPart_51 rfl rfl ⟨_, rfl, hV⟩
  · have hV := hV.2 c
    refine s_iload_n d_X5_longestPart_16 rfl (ma 2 rfl) ?_
    refine s_aload_n d_X5_longestPart_17 rfl (ma 0 rfl) ?_
    obtain ⟨o, hV⟩ := hV
    refine f_RX5_9g rfl d_X5_longestPart_18 o ?_
    refine s_iload d_X5_longestPart_21 (ma 4 rfl) ?_
    obtain ⟨o, hV⟩ := hV
    refine s_iald d_X5_longestPart_23 o.1 o.2.1 o.2.2 ?_
    refine s_iload_n d_X5_longestPart_24 rfl (ma 3 rfl) ?_
    obtain ⟨o, hV⟩ := hV
    refine s_isub d_X5_longestPart_25 o ?_
    refine s_mmax d_X5_longestPart_26 mm_RX5_46 (Nat.le_of_ble_eq_true rfl) (Nat.le_of_ble_eq_true rfl) ?_
    refine s_nmI (fun x2_1 ex2_1 => ?_)
    have hV := hV x2_1 ex2_1
    refine s_istore_n (lv' := [(2, .inl x2_1), (0, .inr (.inr x0)), (1, .inl x1), (3, .inl x3), (4, .inl x4)]) d_X5_longestPart_29 rfl (Nat.le_of_ble_eq_true rfl) rfl ?_
    refine s_aload_n d_X5_longestPart_30 rfl (ma 1 rfl) ?_
    obtain ⟨o, hV⟩ := hV
    refine f_RX5_9g rfl d_X5_longestPart_31 o ?_
    refine s_iload d_X5_longestPart_34 (ma 4 rfl) ?_
    obtain ⟨o, hV⟩ := hV
    refine s_iald d_X5_longestPart_36 o.1 o.2.1 o.2.2 ?_
    refine s_nmI (fun x3_2 ex3_2 => ?_)
    have hV := hV x3_2 ex3_2
    refine s_istore_n (lv' := [(3, .inl x3_2), (2, .inl x2_1), (0, .inr (.inr x0)), (1, .inl x1), (4, .inl x4)]) d_X5_longestPart_37 rfl (Nat.le_of_ble_eq_true rfl) rfl ?_
    obtain ⟨o, hV⟩ := hV
    refine s_iinc (lv' := [(4, .inl (x4 + 1)), (3, .inl x3_2), (2, .inl x2_1), (0, .inr (.inr x0)), (1, .inl x1)]) d_X5_longestPart_38 (ma 4 rfl) o (Nat.le_of_ble_eq_true rfl) rfl ?_
    refine s_goto (tgt := 7) d_X5_longestPart_41 (by decide) ?_
    refine s_pick (lv' := [(0, .inr (.inr x0)), (1, .inl x1), (2, .inl x2_1), (3, .inl x3_2), (4, .inl (x4 + 1))]) [3, 4, 2, 1, 0] rfl ?_
    exact hP7 _ _ _ _ hV
def V_X5_longestPart (x0 : Nat) (x1 : Int) (h : Hp) (Q : Int → Hp → Prop) : Prop :=
  Lp_X5_longestPart_7 x0 x1 0 0 0 h Q
theorem G_X5_longestPart {x0 : Nat} {x1 : Int} (h : Hp) (Q : Int → Hp → Prop) (hV : V_X5_longestPart x0 x1 h Q) : C_X5_longestPart x0 x1 h Q := by
  unfold V_X5_longestPart at hV
  show Go i_X5_longestPart 0 [(0, .inr (.inr x0)), (1, .inl x1)] [] h (qI Q)
  refine s_iconst d_X5_longestPart_0 (okn rfl) ?_
  refine s_istore_n (lv' := [(2, .inl 0), (0, .inr (.inr x0)), (1, .inl x1)]) d_X5_longestPart_1 rfl (Nat.le_of_ble_eq_true rfl) rfl ?_
  refine s_iconst d_X5_longestPart_2 (okn rfl) ?_
  refine s_istore_n (lv' := [(3, .inl 0), (2, .inl 0), (0, .inr (.inr x0)), (1, .inl x1)]) d_X5_longestPart_3 rfl (Nat.le_of_ble_eq_true rfl) rfl ?_
  refine s_iconst d_X5_longestPart_4 (okn rfl) ?_
  refine s_istore (lv' := [(4, .inl 0), (3, .inl 0), (2, .inl 0), (0, .inr (.inr x0)), (1, .inl x1)]) d_X5_longestPart_5 (Nat.le_of_ble_eq_true rfl) rfl ?_
  refine s_pick (lv' := [(0, .inr (.inr x0)), (1, .inl x1), (2, .inl 0), (3, .inl 0), (4, .inl 0)]) [3, 4, 2, 1, 0] rfl ?_
  exact GLp_X5_longestPart_7 _ _ _ _ _ _ _ hV
