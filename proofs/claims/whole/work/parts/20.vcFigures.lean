/-! printed by wip/gen/gen.py: Figures -/
theorem d_X2_init_0 : decode i_X2_init.2.1 0 = .ok (.aload_n 0, 1) := by decide +kernel
theorem d_X2_init_1 : decode i_X2_init.2.1 1 = .ok (.invokespecial 3, 3) := by decide +kernel
theorem d_X2_init_4 : decode i_X2_init.2.1 4 = .ok (.aload_n 0, 1) := by decide +kernel
theorem d_X2_init_5 : decode i_X2_init.2.1 5 = .ok (.iload_n 1, 1) := by decide +kernel
theorem d_X2_init_6 : decode i_X2_init.2.1 6 = .ok (.iconst 0, 1) := by decide +kernel
theorem d_X2_init_7 : decode i_X2_init.2.1 7 = .ok (.invokestatic 9, 3) := by decide +kernel
theorem d_X2_init_10 : decode i_X2_init.2.1 10 = .ok (.newarray .byte, 2) := by decide +kernel
theorem d_X2_init_12 : decode i_X2_init.2.1 12 = .ok (.putfield 15, 3) := by decide +kernel
theorem d_X2_init_15 : decode i_X2_init.2.1 15 = .ok (.return_, 1) := by decide +kernel
def V_X2_init (x0 : Nat) (x1 : Int) (h : Hp) (Q : Hp → Prop) : Prop :=
  hK h x0 = 2 ∧ (((0 : Int) ≤ max x1 0 ∧ max x1 0 ≤ (100000000 : Int)) ∧ ∀ n1 : Nat, n1 = hN h → ∀ h2 : Hp, h2 = al h 13 (max x1 0) (Int.toNat (max x1 0)) → (hK h2 x0 = 2 ∧ ∀ h3 : Hp, h3 = wR h2 x0 0 n1 → (Q h3)))
theorem G_X2_init {x0 : Nat} {x1 : Int} (h : Hp) (Q : Hp → Prop) (hV : V_X2_init x0 x1 h Q) : C_X2_init x0 x1 h Q := by
  unfold V_X2_init at hV
  show Go i_X2_init 0 [(0, .inr (.inr x0)), (1, .inl x1)] [] h (qV Q)
  refine s_aload_n d_X2_init_0 rfl (ma 0 rfl) ?_
  obtain ⟨o, hV⟩ := hV
  refine s_objInit d_X2_init_1 ob_RX2_3 (Nat.le_of_ble_eq_true rfl) rfl (by rw [o]; decide) ?_
  refine s_aload_n d_X2_init_4 rfl (ma 0 rfl) ?_
  refine s_iload_n d_X2_init_5 rfl (ma 1 rfl) ?_
  refine s_iconst d_X2_init_6 (okn rfl) ?_
  refine s_mmax d_X2_init_7 mm_RX2_9 (Nat.le_of_ble_eq_true rfl) (Nat.le_of_ble_eq_true rfl) ?_
  obtain ⟨o, hV⟩ := hV
  refine s_newb d_X2_init_10 ac_byte o.1 o.2 ?_
  refine s_nmA (fun n1 en1 => ?_)
  refine s_nmH (fun h2 eh2 => ?_)
  have hV := hV n1 en1 h2 eh2
  obtain ⟨o, hV⟩ := hV
  refine f_RX2_15p rfl d_X2_init_12 o (fun h3 eh3 => ?_)
  have hV := hV h3 eh3
  exact s_vret d_X2_init_15 rfl ⟨rfl, hV⟩

theorem d_X2_startOver_0 : decode i_X2_startOver.2.1 0 = .ok (.aload_n 0, 1) := by decide +kernel
theorem d_X2_startOver_1 : decode i_X2_startOver.2.1 1 = .ok (.iconst 0, 1) := by decide +kernel
theorem d_X2_startOver_2 : decode i_X2_startOver.2.1 2 = .ok (.putfield 21, 3) := by decide +kernel
theorem d_X2_startOver_5 : decode i_X2_startOver.2.1 5 = .ok (.iload_n 1, 1) := by decide +kernel
theorem d_X2_startOver_6 : decode i_X2_startOver.2.1 6 = .ok (.aload_n 0, 1) := by decide +kernel
theorem d_X2_startOver_7 : decode i_X2_startOver.2.1 7 = .ok (.getfield 15, 3) := by decide +kernel
theorem d_X2_startOver_10 : decode i_X2_startOver.2.1 10 = .ok (.arraylength, 1) := by decide +kernel
theorem d_X2_startOver_11 : decode i_X2_startOver.2.1 11 = .ok (.if_icmp .le 29, 3) := by decide +kernel
theorem d_X2_startOver_14 : decode i_X2_startOver.2.1 14 = .ok (.aload_n 0, 1) := by decide +kernel
theorem d_X2_startOver_15 : decode i_X2_startOver.2.1 15 = .ok (.getfield 15, 3) := by decide +kernel
theorem d_X2_startOver_18 : decode i_X2_startOver.2.1 18 = .ok (.arraylength, 1) := by decide +kernel
theorem d_X2_startOver_19 : decode i_X2_startOver.2.1 19 = .ok (.sipush 15360, 3) := by decide +kernel
theorem d_X2_startOver_22 : decode i_X2_startOver.2.1 22 = .ok (.if_icmp .ge 18, 3) := by decide +kernel
theorem d_X2_startOver_25 : decode i_X2_startOver.2.1 25 = .ok (.aload_n 0, 1) := by decide +kernel
theorem d_X2_startOver_26 : decode i_X2_startOver.2.1 26 = .ok (.sipush 15360, 3) := by decide +kernel
theorem d_X2_startOver_29 : decode i_X2_startOver.2.1 29 = .ok (.iconst 2, 1) := by decide +kernel
theorem d_X2_startOver_30 : decode i_X2_startOver.2.1 30 = .ok (.iload_n 1, 1) := by decide +kernel
theorem d_X2_startOver_31 : decode i_X2_startOver.2.1 31 = .ok (.imul, 1) := by decide +kernel
theorem d_X2_startOver_32 : decode i_X2_startOver.2.1 32 = .ok (.invokestatic 25, 3) := by decide +kernel
theorem d_X2_startOver_35 : decode i_X2_startOver.2.1 35 = .ok (.newarray .byte, 2) := by decide +kernel
theorem d_X2_startOver_37 : decode i_X2_startOver.2.1 37 = .ok (.putfield 15, 3) := by decide +kernel
theorem d_X2_startOver_40 : decode i_X2_startOver.2.1 40 = .ok (.return_, 1) := by decide +kernel
def V_X2_startOver (x0 : Nat) (x1 : Int) (h : Hp) (Q : Hp → Prop) : Prop :=
  hK h x0 = 2 ∧ ∀ h1 : Hp, h1 = wI h x0 1 0 → (hK h1 x0 = 2 ∧ (hK h1 (hR h1 x0 0) = 13 ∧ ((x1 ≤ hL h1 (hR h1 x0 0) → (Q h1)) ∧ (¬ x1 ≤ hL h1 (hR h1 x0 0) → (hK h1 x0 = 2 ∧ (hK h1 (hR h1 x0 0) = 13 ∧ ((15360 ≤ hL h1 (hR h1 x0 0) → (Q h1)) ∧ (¬ 15360 ≤ hL h1 (hR h1 x0 0) → (((-2147483648 : Int) ≤ 2 * x1 ∧ 2 * x1 ≤ (2147483647 : Int)) ∧ (((0 : Int) ≤ min 15360 (2 * x1) ∧ min 15360 (2 * x1) ≤ (100000000 : Int)) ∧ ∀ n2 : Nat, n2 = hN h1 → ∀ h3 : Hp, h3 = al h1 13 (min 15360 (2 * x1)) (Int.toNat (min 15360 (2 * x1))) → (hK h3 x0 = 2 ∧ ∀ h4 : Hp, h4 = wR h3 x0 0 n2 → (Q h4))))))))))))
theorem G_X2_startOver {x0 : Nat} {x1 : Int} (h : Hp) (Q : Hp → Prop) (hV : V_X2_startOver x0 x1 h Q) : C_X2_startOver x0 x1 h Q := by
  unfold V_X2_startOver at hV
  show Go i_X2_startOver 0 [(0, .inr (.inr x0)), (1, .inl x1)] [] h (qV Q)
  refine s_aload_n d_X2_startOver_0 rfl (ma 0 rfl) ?_
  refine s_iconst d_X2_startOver_1 (okn rfl) ?_
  obtain ⟨o, hV⟩ := hV
  refine f_RX2_21p rfl d_X2_startOver_2 o (fun h1 eh1 => ?_)
  have hV := hV h1 eh1
  refine s_iload_n d_X2_startOver_5 rfl (ma 1 rfl) ?_
  refine s_aload_n d_X2_startOver_6 rfl (ma 0 rfl) ?_
  obtain ⟨o, hV⟩ := hV
  refine f_RX2_15g rfl d_X2_startOver_7 o ?_
  obtain ⟨o, hV⟩ := hV
  refine s_blen d_X2_startOver_10 o ?_
  refine s_icmp_le (tgt := 40) d_X2_startOver_11 (by decide) (fun c => ?_) (fun c => ?_)
  · have hV := hV.1 c
    exact s_vret d_X2_startOver_40 rfl ⟨rfl, hV⟩
  · have hV := hV.2 c
    refine s_aload_n d_X2_startOver_14 rfl (ma 0 rfl) ?_
    obtain ⟨o, hV⟩ := hV
    refine f_RX2_15g rfl d_X2_startOver_15 o ?_
    obtain ⟨o, hV⟩ := hV
    refine s_blen d_X2_startOver_18 o ?_
    refine s_sipush d_X2_startOver_19 (by decide) (okn rfl) ?_
    refine s_icmp_ge (tgt := 40) d_X2_startOver_22 (by decide) (fun c => ?_) (fun c => ?_)
    · have hV := hV.1 c
      exact s_vret d_X2_startOver_40 rfl ⟨rfl, hV⟩
    · have hV := hV.2 c
      refine s_aload_n d_X2_startOver_25 rfl (ma 0 rfl) ?_
      refine s_sipush d_X2_startOver_26 (by decide) (okn rfl) ?_
      refine s_iconst d_X2_startOver_29 (okn rfl) ?_
      refine s_iload_n d_X2_startOver_30 rfl (ma 1 rfl) ?_
      obtain ⟨o, hV⟩ := hV
      refine s_imul d_X2_startOver_31 o ?_
      refine s_mmin d_X2_startOver_32 mm_RX2_25 (Nat.le_of_ble_eq_true rfl) (Nat.le_of_ble_eq_true rfl) ?_
      obtain ⟨o, hV⟩ := hV
      refine s_newb d_X2_startOver_35 ac_byte o.1 o.2 ?_
      refine s_nmA (fun n2 en2 => ?_)
      refine s_nmH (fun h3 eh3 => ?_)
      have hV := hV n2 en2 h3 eh3
      obtain ⟨o, hV⟩ := hV
      refine f_RX2_15p rfl d_X2_startOver_37 o (fun h4 eh4 => ?_)
      have hV := hV h4 eh4
      exact s_vret d_X2_startOver_40 rfl ⟨rfl, hV⟩

theorem d_X2_get_0 : decode i_X2_get.2.1 0 = .ok (.iload_n 1, 1) := by decide +kernel
theorem d_X2_get_1 : decode i_X2_get.2.1 1 = .ok (.ifCond .lt 20, 3) := by decide +kernel
theorem d_X2_get_4 : decode i_X2_get.2.1 4 = .ok (.iload_n 1, 1) := by decide +kernel
theorem d_X2_get_5 : decode i_X2_get.2.1 5 = .ok (.aload_n 0, 1) := by decide +kernel
theorem d_X2_get_6 : decode i_X2_get.2.1 6 = .ok (.getfield 21, 3) := by decide +kernel
theorem d_X2_get_9 : decode i_X2_get.2.1 9 = .ok (.if_icmp .ge 12, 3) := by decide +kernel
theorem d_X2_get_12 : decode i_X2_get.2.1 12 = .ok (.aload_n 0, 1) := by decide +kernel
theorem d_X2_get_13 : decode i_X2_get.2.1 13 = .ok (.getfield 15, 3) := by decide +kernel
theorem d_X2_get_16 : decode i_X2_get.2.1 16 = .ok (.iload_n 1, 1) := by decide +kernel
theorem d_X2_get_17 : decode i_X2_get.2.1 17 = .ok (.baload, 1) := by decide +kernel
theorem d_X2_get_18 : decode i_X2_get.2.1 18 = .ok (.goto 4, 3) := by decide +kernel
theorem d_X2_get_21 : decode i_X2_get.2.1 21 = .ok (.iconst (-1), 1) := by decide +kernel
theorem d_X2_get_22 : decode i_X2_get.2.1 22 = .ok (.ireturn, 1) := by decide +kernel
def V_X2_get (x0 : Nat) (x1 : Int) (h : Hp) (Q : Int → Hp → Prop) : Prop :=
  (x1 < 0 → (Q (-1) h)) ∧ (¬ x1 < 0 → (hK h x0 = 2 ∧ ((hI h x0 1 ≤ x1 → (Q (-1) h)) ∧ (¬ hI h x0 1 ≤ x1 → (hK h x0 = 2 ∧ ((hK h (hR h x0 0) = 13 ∧ (0 : Int) ≤ x1 ∧ x1 < hL h (hR h x0 0)) ∧ (Q (hI h (hR h x0 0) x1) h)))))))
theorem G_X2_get {x0 : Nat} {x1 : Int} (h : Hp) (Q : Int → Hp → Prop) (hV : V_X2_get x0 x1 h Q) : C_X2_get x0 x1 h Q := by
  unfold V_X2_get at hV
  show Go i_X2_get 0 [(0, .inr (.inr x0)), (1, .inl x1)] [] h (qI Q)
  refine s_iload_n d_X2_get_0 rfl (ma 1 rfl) ?_
  refine s_if_lt (tgt := 21) d_X2_get_1 (by decide) (fun c => ?_) (fun c => ?_)
  · have hV := hV.1 c
    refine s_iconst d_X2_get_21 (okn rfl) ?_
    exact s_iret d_X2_get_22 rfl rfl ⟨_, rfl, hV⟩
  · have hV := hV.2 c
    refine s_iload_n d_X2_get_4 rfl (ma 1 rfl) ?_
    refine s_aload_n d_X2_get_5 rfl (ma 0 rfl) ?_
    obtain ⟨o, hV⟩ := hV
    refine f_RX2_21g rfl d_X2_get_6 o ?_
    refine s_icmp_ge (tgt := 21) d_X2_get_9 (by decide) (fun c => ?_) (fun c => ?_)
    · have hV := hV.1 c
      refine s_iconst d_X2_get_21 (okn rfl) ?_
      exact s_iret d_X2_get_22 rfl rfl ⟨_, rfl, hV⟩
    · have hV := hV.2 c
      refine s_aload_n d_X2_get_12 rfl (ma 0 rfl) ?_
      obtain ⟨o, hV⟩ := hV
      refine f_RX2_15g rfl d_X2_get_13 o ?_
      refine s_iload_n d_X2_get_16 rfl (ma 1 rfl) ?_
      obtain ⟨o, hV⟩ := hV
      refine s_bald d_X2_get_17 o.1 o.2.1 o.2.2 ?_
      refine s_goto (tgt := 22) d_X2_get_18 (by decide) ?_
      exact s_iret d_X2_get_22 rfl rfl ⟨_, rfl, hV⟩

theorem d_X2_set_0 : decode i_X2_set.2.1 0 = .ok (.iload_n 1, 1) := by decide +kernel
theorem d_X2_set_1 : decode i_X2_set.2.1 1 = .ok (.ifCond .lt 19, 3) := by decide +kernel
theorem d_X2_set_4 : decode i_X2_set.2.1 4 = .ok (.iload_n 1, 1) := by decide +kernel
theorem d_X2_set_5 : decode i_X2_set.2.1 5 = .ok (.aload_n 0, 1) := by decide +kernel
theorem d_X2_set_6 : decode i_X2_set.2.1 6 = .ok (.getfield 21, 3) := by decide +kernel
theorem d_X2_set_9 : decode i_X2_set.2.1 9 = .ok (.if_icmp .ge 11, 3) := by decide +kernel
theorem d_X2_set_12 : decode i_X2_set.2.1 12 = .ok (.aload_n 0, 1) := by decide +kernel
theorem d_X2_set_13 : decode i_X2_set.2.1 13 = .ok (.getfield 15, 3) := by decide +kernel
theorem d_X2_set_16 : decode i_X2_set.2.1 16 = .ok (.iload_n 1, 1) := by decide +kernel
theorem d_X2_set_17 : decode i_X2_set.2.1 17 = .ok (.iload_n 2, 1) := by decide +kernel
theorem d_X2_set_18 : decode i_X2_set.2.1 18 = .ok (.i2b, 1) := by decide +kernel
theorem d_X2_set_19 : decode i_X2_set.2.1 19 = .ok (.bastore, 1) := by decide +kernel
theorem d_X2_set_20 : decode i_X2_set.2.1 20 = .ok (.return_, 1) := by decide +kernel
def V_X2_set (x0 : Nat) (x1 : Int) (x2 : Int) (h : Hp) (Q : Hp → Prop) : Prop :=
  (x1 < 0 → (Q h)) ∧ (¬ x1 < 0 → (hK h x0 = 2 ∧ ((hI h x0 1 ≤ x1 → (Q h)) ∧ (¬ hI h x0 1 ≤ x1 → (hK h x0 = 2 ∧ (((-128 : Int) ≤ x2 ∧ x2 ≤ (127 : Int)) ∧ ((hK h (hR h x0 0) = 13 ∧ (0 : Int) ≤ x1 ∧ x1 < hL h (hR h x0 0) ∧ ((-128 : Int) ≤ x2 ∧ x2 ≤ (127 : Int))) ∧ ∀ h1 : Hp, h1 = wI h (hR h x0 0) x1 x2 → (Q h1))))))))
theorem G_X2_set {x0 : Nat} {x1 : Int} {x2 : Int} (h : Hp) (Q : Hp → Prop) (hV : V_X2_set x0 x1 x2 h Q) : C_X2_set x0 x1 x2 h Q := by
  unfold V_X2_set at hV
  show Go i_X2_set 0 [(0, .inr (.inr x0)), (1, .inl x1), (2, .inl x2)] [] h (qV Q)
  refine s_iload_n d_X2_set_0 rfl (ma 1 rfl) ?_
  refine s_if_lt (tgt := 20) d_X2_set_1 (by decide) (fun c => ?_) (fun c => ?_)
  · have hV := hV.1 c
    exact s_vret d_X2_set_20 rfl ⟨rfl, hV⟩
  · have hV := hV.2 c
    refine s_iload_n d_X2_set_4 rfl (ma 1 rfl) ?_
    refine s_aload_n d_X2_set_5 rfl (ma 0 rfl) ?_
    obtain ⟨o, hV⟩ := hV
    refine f_RX2_21g rfl d_X2_set_6 o ?_
    refine s_icmp_ge (tgt := 20) d_X2_set_9 (by decide) (fun c => ?_) (fun c => ?_)
    · have hV := hV.1 c
      exact s_vret d_X2_set_20 rfl ⟨rfl, hV⟩
    · have hV := hV.2 c
      refine s_aload_n d_X2_set_12 rfl (ma 0 rfl) ?_
      obtain ⟨o, hV⟩ := hV
      refine f_RX2_15g rfl d_X2_set_13 o ?_
      refine s_iload_n d_X2_set_16 rfl (ma 1 rfl) ?_
      refine s_iload_n d_X2_set_17 rfl (ma 2 rfl) ?_
      obtain ⟨o, hV⟩ := hV
      refine s_i2b d_X2_set_18 o ?_
      obtain ⟨o, hV⟩ := hV
      refine s_bast d_X2_set_19 o.1 o.2.1 o.2.2.1 o.2.2.2 ?_
      refine s_nmH (fun h1 eh1 => ?_)
      have hV := hV h1 eh1
      exact s_vret d_X2_set_20 rfl ⟨rfl, hV⟩

theorem d_X2_add_0 : decode i_X2_add.2.1 0 = .ok (.aload_n 0, 1) := by decide +kernel
theorem d_X2_add_1 : decode i_X2_add.2.1 1 = .ok (.getfield 21, 3) := by decide +kernel
theorem d_X2_add_4 : decode i_X2_add.2.1 4 = .ok (.aload_n 0, 1) := by decide +kernel
theorem d_X2_add_5 : decode i_X2_add.2.1 5 = .ok (.getfield 15, 3) := by decide +kernel
theorem d_X2_add_8 : decode i_X2_add.2.1 8 = .ok (.arraylength, 1) := by decide +kernel
theorem d_X2_add_9 : decode i_X2_add.2.1 9 = .ok (.if_icmp .lt 5, 3) := by decide +kernel
theorem d_X2_add_12 : decode i_X2_add.2.1 12 = .ok (.iconst 0, 1) := by decide +kernel
theorem d_X2_add_13 : decode i_X2_add.2.1 13 = .ok (.ireturn, 1) := by decide +kernel
theorem d_X2_add_14 : decode i_X2_add.2.1 14 = .ok (.aload_n 0, 1) := by decide +kernel
theorem d_X2_add_15 : decode i_X2_add.2.1 15 = .ok (.getfield 15, 3) := by decide +kernel
theorem d_X2_add_18 : decode i_X2_add.2.1 18 = .ok (.aload_n 0, 1) := by decide +kernel
theorem d_X2_add_19 : decode i_X2_add.2.1 19 = .ok (.getfield 21, 3) := by decide +kernel
theorem d_X2_add_22 : decode i_X2_add.2.1 22 = .ok (.iload_n 1, 1) := by decide +kernel
theorem d_X2_add_23 : decode i_X2_add.2.1 23 = .ok (.i2b, 1) := by decide +kernel
theorem d_X2_add_24 : decode i_X2_add.2.1 24 = .ok (.bastore, 1) := by decide +kernel
theorem d_X2_add_25 : decode i_X2_add.2.1 25 = .ok (.aload_n 0, 1) := by decide +kernel
theorem d_X2_add_26 : decode i_X2_add.2.1 26 = .ok (.dup, 1) := by decide +kernel
theorem d_X2_add_27 : decode i_X2_add.2.1 27 = .ok (.getfield 21, 3) := by decide +kernel
theorem d_X2_add_30 : decode i_X2_add.2.1 30 = .ok (.iconst 1, 1) := by decide +kernel
theorem d_X2_add_31 : decode i_X2_add.2.1 31 = .ok (.iadd, 1) := by decide +kernel
theorem d_X2_add_32 : decode i_X2_add.2.1 32 = .ok (.putfield 21, 3) := by decide +kernel
theorem d_X2_add_35 : decode i_X2_add.2.1 35 = .ok (.iconst 1, 1) := by decide +kernel
theorem d_X2_add_36 : decode i_X2_add.2.1 36 = .ok (.ireturn, 1) := by decide +kernel
def V_X2_add (x0 : Nat) (x1 : Int) (h : Hp) (Q : Int → Hp → Prop) : Prop :=
  hK h x0 = 2 ∧ (hK h x0 = 2 ∧ (hK h (hR h x0 0) = 13 ∧ ((hI h x0 1 < hL h (hR h x0 0) → (hK h x0 = 2 ∧ (hK h x0 = 2 ∧ (((-128 : Int) ≤ x1 ∧ x1 ≤ (127 : Int)) ∧ ((hK h (hR h x0 0) = 13 ∧ (0 : Int) ≤ hI h x0 1 ∧ hI h x0 1 < hL h (hR h x0 0) ∧ ((-128 : Int) ≤ x1 ∧ x1 ≤ (127 : Int))) ∧ ∀ h1 : Hp, h1 = wI h (hR h x0 0) (hI h x0 1) x1 → (hK h1 x0 = 2 ∧ (((-2147483648 : Int) ≤ (hI h1 x0 1) + 1 ∧ (hI h1 x0 1) + 1 ≤ (2147483647 : Int)) ∧ (hK h1 x0 = 2 ∧ ∀ h2 : Hp, h2 = wI h1 x0 1 ((hI h1 x0 1) + 1) → (Q 1 h2))))))))) ∧ (¬ hI h x0 1 < hL h (hR h x0 0) → (Q 0 h)))))
theorem G_X2_add {x0 : Nat} {x1 : Int} (h : Hp) (Q : Int → Hp → Prop) (hV : V_X2_add x0 x1 h Q) : C_X2_add x0 x1 h Q := by
  unfold V_X2_add at hV
  show Go i_X2_add 0 [(0, .inr (.inr x0)), (1, .inl x1)] [] h (qI Q)
  refine s_aload_n d_X2_add_0 rfl (ma 0 rfl) ?_
  obtain ⟨o, hV⟩ := hV
  refine f_RX2_21g rfl d_X2_add_1 o ?_
  refine s_aload_n d_X2_add_4 rfl (ma 0 rfl) ?_
  obtain ⟨o, hV⟩ := hV
  refine f_RX2_15g rfl d_X2_add_5 o ?_
  obtain ⟨o, hV⟩ := hV
  refine s_blen d_X2_add_8 o ?_
  refine s_icmp_lt (tgt := 14) d_X2_add_9 (by decide) (fun c => ?_) (fun c => ?_)
  · have hV := hV.1 c
    refine s_aload_n d_X2_add_14 rfl (ma 0 rfl) ?_
    obtain ⟨o, hV⟩ := hV
    refine f_RX2_15g rfl d_X2_add_15 o ?_
    refine s_aload_n d_X2_add_18 rfl (ma 0 rfl) ?_
    obtain ⟨o, hV⟩ := hV
    refine f_RX2_21g rfl d_X2_add_19 o ?_
    refine s_iload_n d_X2_add_22 rfl (ma 1 rfl) ?_
    obtain ⟨o, hV⟩ := hV
    refine s_i2b d_X2_add_23 o ?_
    obtain ⟨o, hV⟩ := hV
    refine s_bast d_X2_add_24 o.1 o.2.1 o.2.2.1 o.2.2.2 ?_
    refine s_nmH (fun h1 eh1 => ?_)
    have hV := hV h1 eh1
    refine s_aload_n d_X2_add_25 rfl (ma 0 rfl) ?_
    refine s_dup d_X2_add_26 rfl ?_
    obtain ⟨o, hV⟩ := hV
    refine f_RX2_21g rfl d_X2_add_27 o ?_
    refine s_iconst d_X2_add_30 (okn rfl) ?_
    obtain ⟨o, hV⟩ := hV
    refine s_iadd d_X2_add_31 o ?_
    obtain ⟨o, hV⟩ := hV
    refine f_RX2_21p rfl d_X2_add_32 o (fun h2 eh2 => ?_)
    have hV := hV h2 eh2
    refine s_iconst d_X2_add_35 (okn rfl) ?_
    exact s_iret d_X2_add_36 rfl (nar_z (Or.inr rfl)) ⟨_, rfl, hV⟩
  · have hV := hV.2 c
    refine s_iconst d_X2_add_12 (okn rfl) ?_
    exact s_iret d_X2_add_13 rfl (nar_z (Or.inl rfl)) ⟨_, rfl, hV⟩

theorem d_X2_addAll_0 : decode i_X2_addAll.2.1 0 = .ok (.iconst 0, 1) := by decide +kernel
theorem d_X2_addAll_1 : decode i_X2_addAll.2.1 1 = .ok (.istore_n 2, 1) := by decide +kernel
theorem d_X2_addAll_2 : decode i_X2_addAll.2.1 2 = .ok (.iload_n 2, 1) := by decide +kernel
theorem d_X2_addAll_3 : decode i_X2_addAll.2.1 3 = .ok (.aload_n 1, 1) := by decide +kernel
theorem d_X2_addAll_4 : decode i_X2_addAll.2.1 4 = .ok (.getfield 21, 3) := by decide +kernel
theorem d_X2_addAll_7 : decode i_X2_addAll.2.1 7 = .ok (.if_icmp .ge 20, 3) := by decide +kernel
theorem d_X2_addAll_10 : decode i_X2_addAll.2.1 10 = .ok (.aload_n 0, 1) := by decide +kernel
theorem d_X2_addAll_11 : decode i_X2_addAll.2.1 11 = .ok (.aload_n 1, 1) := by decide +kernel
theorem d_X2_addAll_12 : decode i_X2_addAll.2.1 12 = .ok (.getfield 15, 3) := by decide +kernel
theorem d_X2_addAll_15 : decode i_X2_addAll.2.1 15 = .ok (.iload_n 2, 1) := by decide +kernel
theorem d_X2_addAll_16 : decode i_X2_addAll.2.1 16 = .ok (.baload, 1) := by decide +kernel
theorem d_X2_addAll_17 : decode i_X2_addAll.2.1 17 = .ok (.invokevirtual 28, 3) := by decide +kernel
theorem d_X2_addAll_20 : decode i_X2_addAll.2.1 20 = .ok (.pop, 1) := by decide +kernel
theorem d_X2_addAll_21 : decode i_X2_addAll.2.1 21 = .ok (.iinc 2 1, 3) := by decide +kernel
theorem d_X2_addAll_24 : decode i_X2_addAll.2.1 24 = .ok (.goto (-22), 3) := by decide +kernel
theorem d_X2_addAll_27 : decode i_X2_addAll.2.1 27 = .ok (.return_, 1) := by decide +kernel
def BLp_X2_addAll_2 (x0 : Nat) (x1 : Nat) (P2 : Int → Hp → Prop) (x2 : Int) (h : Hp) (Q : Hp → Prop) : Prop :=
  hK h x1 = 2 ∧ ((hI h x1 1 ≤ x2 → (Q h)) ∧ (¬ hI h x1 1 ≤ x2 → (hK h x1 = 2 ∧ ((hK h (hR h x1 0) = 13 ∧ (0 : Int) ≤ x2 ∧ x2 < hL h (hR h x1 0)) ∧ (hK h x0 = 2 ∧ C_X2_add x0 (hI h (hR h x1 0) x2) h (fun r2 h1 => (((-2147483648 : Int) ≤ x2 + 1 ∧ x2 + 1 ≤ (2147483647 : Int)) ∧ (P2 (x2 + 1) h1))))))))
def Lp_X2_addAll_2 (x0 : Nat) (x1 : Nat) (x2 : Int) (h : Hp) (Q : Hp → Prop) : Prop := ∀ P2 : Int → Hp → Prop, (∀ (x2 : Int) (h : Hp), BLp_X2_addAll_2 x0 x1 P2 x2 h Q → P2 x2 h) → P2 x2 h
theorem Lp_X2_addAll_2_ind {x0 : Nat} {x1 : Nat} {Q : Hp → Prop} (I : Int → Hp → Prop) (μ : Int → Hp → Nat) (hs : ∀ (P2 : Int → Hp → Prop) (x2 : Int) (h : Hp), I x2 h → (∀ (x2' : Int) (h' : Hp), I x2' h' → μ x2' h' < μ x2 h → P2 x2' h') → BLp_X2_addAll_2 x0 x1 P2 x2 h Q) : ∀ (x2 : Int) (h : Hp), I x2 h → Lp_X2_addAll_2 x0 x1 x2 h Q := by
  intro x2 h hI P2 hP
  have key : ∀ (n : Nat) (x2 : Int) (h : Hp), I x2 h → μ x2 h < n → P2 x2 h := by
    intro n
    induction n with
    | zero => intro x2 h _ hl; exact absurd hl (Nat.not_lt_zero _)
    | succ n ih => intro x2 h hi hl; exact hP x2 h (hs P2 x2 h hi (fun x2 h' hi' hl' => ih x2 h' hi' (by omega)))
  exact key _ x2 h hI (Nat.lt_succ_self _)
theorem GLp_X2_addAll_2 (x0 : Nat) (x1 : Nat) (x2 : Int) (h : Hp) (Q : Hp → Prop) (hV : Lp_X2_addAll_2 x0 x1 x2 h Q) : Go i_X2_addAll 2 [(0, .inr (.inr x0)), (1, .inr (.inr x1)), (2, .inl x2)] [] h (qV Q) := by
  refine hV (fun x2 h => Go i_X2_addAll 2 [(0, .inr (.inr x0)), (1, .inr (.inr x1)), (2, .inl x2)] [] h (qV Q)) (fun x2 h hV => ?_)
  unfold BLp_X2_addAll_2 at hV
  have hP2 : ∀ (x2 : Int) (h : Hp), Go i_X2_addAll 2 [(0, .inr (.inr x0)), (1, .inr (.inr x1)), (2, .inl x2)] [] h (qV Q) → Go i_X2_addAll 2 [(0, .inr (.inr x0)), (1, .inr (.inr x1)), (2, .inl x2)] [] h (qV Q) := fun _ h z => z
  refine s_iload_n d_X2_addAll_2 rfl (ma 2 rfl) ?_
  refine s_aload_n d_X2_addAll_3 rfl (ma 1 rfl) ?_
  obtain ⟨o, hV⟩ := hV
  refine f_RX2_21g rfl d_X2_addAll_4 o ?_
  refine s_icmp_ge (tgt := 27) d_X2_addAll_7 (by decide) (fun c => ?_) (fun c => ?_)
  · have hV := hV.1 c
    exact s_vret d_X2_addAll_27 rfl ⟨rfl, hV⟩
  · have hV := hV.2 c
    refine s_aload_n d_X2_addAll_10 rfl (ma 0 rfl) ?_
    refine s_aload_n d_X2_addAll_11 rfl (ma 1 rfl) ?_
    obtain ⟨o, hV⟩ := hV
    refine f_RX2_15g rfl d_X2_addAll_12 o ?_
    refine s_iload_n d_X2_addAll_15 rfl (ma 2 rfl) ?_
    obtain ⟨o, hV⟩ := hV
    refine s_bald d_X2_addAll_16 o.1 o.2.1 o.2.2 ?_
    obtain ⟨o, hV⟩ := hV
    refine v_RX2_28 rfl (Nat.le_of_ble_eq_true rfl) d_X2_addAll_17 o (Nat.le_of_ble_eq_true rfl) hV (fun r2 h1 hV => ?_)
    refine s_pop d_X2_addAll_20 rfl ?_
    obtain ⟨o, hV⟩ := hV
    refine s_iinc (lv' := [(2, .inl (x2 + 1)), (0, .inr (.inr x0)), (1, .inr (.inr x1))]) d_X2_addAll_21 (ma 2 rfl) o (Nat.le_of_ble_eq_true rfl) rfl ?_
    refine s_goto (tgt := 2) d_X2_addAll_24 (by decide) ?_
    refine s_pick (lv' := [(0, .inr (.inr x0)), (1, .inr (.inr x1)), (2, .inl (x2 + 1))]) [1, 2, 0] rfl ?_
    exact hP2 _ _ hV
def V_X2_addAll (x0 : Nat) (x1 : Nat) (h : Hp) (Q : Hp → Prop) : Prop :=
  Lp_X2_addAll_2 x0 x1 0 h Q
theorem G_X2_addAll {x0 : Nat} {x1 : Nat} (h : Hp) (Q : Hp → Prop) (hV : V_X2_addAll x0 x1 h Q) : C_X2_addAll x0 x1 h Q := by
  unfold V_X2_addAll at hV
  show Go i_X2_addAll 0 [(0, .inr (.inr x0)), (1, .inr (.inr x1))] [] h (qV Q)
  refine s_iconst d_X2_addAll_0 (okn rfl) ?_
  refine s_istore_n (lv' := [(2, .inl 0), (0, .inr (.inr x0)), (1, .inr (.inr x1))]) d_X2_addAll_1 rfl (Nat.le_of_ble_eq_true rfl) rfl ?_
  refine s_pick (lv' := [(0, .inr (.inr x0)), (1, .inr (.inr x1)), (2, .inl 0)]) [1, 2, 0] rfl ?_
  exact GLp_X2_addAll_2 _ _ _ _ _ hV

theorem d_X2_cut_0 : decode i_X2_cut.2.1 0 = .ok (.aload_n 0, 1) := by decide +kernel
theorem d_X2_cut_1 : decode i_X2_cut.2.1 1 = .ok (.iconst 0, 1) := by decide +kernel
theorem d_X2_cut_2 : decode i_X2_cut.2.1 2 = .ok (.aload_n 0, 1) := by decide +kernel
theorem d_X2_cut_3 : decode i_X2_cut.2.1 3 = .ok (.getfield 21, 3) := by decide +kernel
theorem d_X2_cut_6 : decode i_X2_cut.2.1 6 = .ok (.iconst 0, 1) := by decide +kernel
theorem d_X2_cut_7 : decode i_X2_cut.2.1 7 = .ok (.iload_n 1, 1) := by decide +kernel
theorem d_X2_cut_8 : decode i_X2_cut.2.1 8 = .ok (.invokestatic 9, 3) := by decide +kernel
theorem d_X2_cut_11 : decode i_X2_cut.2.1 11 = .ok (.isub, 1) := by decide +kernel
theorem d_X2_cut_12 : decode i_X2_cut.2.1 12 = .ok (.invokestatic 9, 3) := by decide +kernel
theorem d_X2_cut_15 : decode i_X2_cut.2.1 15 = .ok (.putfield 21, 3) := by decide +kernel
theorem d_X2_cut_18 : decode i_X2_cut.2.1 18 = .ok (.return_, 1) := by decide +kernel
def V_X2_cut (x0 : Nat) (x1 : Int) (h : Hp) (Q : Hp → Prop) : Prop :=
  hK h x0 = 2 ∧ (((-2147483648 : Int) ≤ (hI h x0 1) - (max 0 x1) ∧ (hI h x0 1) - (max 0 x1) ≤ (2147483647 : Int)) ∧ (hK h x0 = 2 ∧ ∀ h1 : Hp, h1 = wI h x0 1 (max 0 ((hI h x0 1) - (max 0 x1))) → (Q h1)))
theorem G_X2_cut {x0 : Nat} {x1 : Int} (h : Hp) (Q : Hp → Prop) (hV : V_X2_cut x0 x1 h Q) : C_X2_cut x0 x1 h Q := by
  unfold V_X2_cut at hV
  show Go i_X2_cut 0 [(0, .inr (.inr x0)), (1, .inl x1)] [] h (qV Q)
  refine s_aload_n d_X2_cut_0 rfl (ma 0 rfl) ?_
  refine s_iconst d_X2_cut_1 (okn rfl) ?_
  refine s_aload_n d_X2_cut_2 rfl (ma 0 rfl) ?_
  obtain ⟨o, hV⟩ := hV
  refine f_RX2_21g rfl d_X2_cut_3 o ?_
  refine s_iconst d_X2_cut_6 (okn rfl) ?_
  refine s_iload_n d_X2_cut_7 rfl (ma 1 rfl) ?_
  refine s_mmax d_X2_cut_8 mm_RX2_9 (Nat.le_of_ble_eq_true rfl) (Nat.le_of_ble_eq_true rfl) ?_
  obtain ⟨o, hV⟩ := hV
  refine s_isub d_X2_cut_11 o ?_
  refine s_mmax d_X2_cut_12 mm_RX2_9 (Nat.le_of_ble_eq_true rfl) (Nat.le_of_ble_eq_true rfl) ?_
  obtain ⟨o, hV⟩ := hV
  refine f_RX2_21p rfl d_X2_cut_15 o (fun h1 eh1 => ?_)
  have hV := hV h1 eh1
  exact s_vret d_X2_cut_18 rfl ⟨rfl, hV⟩

theorem d_X2_reverse_0 : decode i_X2_reverse.2.1 0 = .ok (.iconst 0, 1) := by decide +kernel
theorem d_X2_reverse_1 : decode i_X2_reverse.2.1 1 = .ok (.istore_n 1, 1) := by decide +kernel
theorem d_X2_reverse_2 : decode i_X2_reverse.2.1 2 = .ok (.iload_n 1, 1) := by decide +kernel
theorem d_X2_reverse_3 : decode i_X2_reverse.2.1 3 = .ok (.aload_n 0, 1) := by decide +kernel
theorem d_X2_reverse_4 : decode i_X2_reverse.2.1 4 = .ok (.getfield 21, 3) := by decide +kernel
theorem d_X2_reverse_7 : decode i_X2_reverse.2.1 7 = .ok (.iconst 2, 1) := by decide +kernel
theorem d_X2_reverse_8 : decode i_X2_reverse.2.1 8 = .ok (.idiv, 1) := by decide +kernel
theorem d_X2_reverse_9 : decode i_X2_reverse.2.1 9 = .ok (.if_icmp .ge 49, 3) := by decide +kernel
theorem d_X2_reverse_12 : decode i_X2_reverse.2.1 12 = .ok (.aload_n 0, 1) := by decide +kernel
theorem d_X2_reverse_13 : decode i_X2_reverse.2.1 13 = .ok (.getfield 15, 3) := by decide +kernel
theorem d_X2_reverse_16 : decode i_X2_reverse.2.1 16 = .ok (.iload_n 1, 1) := by decide +kernel
theorem d_X2_reverse_17 : decode i_X2_reverse.2.1 17 = .ok (.baload, 1) := by decide +kernel
theorem d_X2_reverse_18 : decode i_X2_reverse.2.1 18 = .ok (.istore_n 2, 1) := by decide +kernel
theorem d_X2_reverse_19 : decode i_X2_reverse.2.1 19 = .ok (.aload_n 0, 1) := by decide +kernel
theorem d_X2_reverse_20 : decode i_X2_reverse.2.1 20 = .ok (.getfield 15, 3) := by decide +kernel
theorem d_X2_reverse_23 : decode i_X2_reverse.2.1 23 = .ok (.iload_n 1, 1) := by decide +kernel
theorem d_X2_reverse_24 : decode i_X2_reverse.2.1 24 = .ok (.aload_n 0, 1) := by decide +kernel
theorem d_X2_reverse_25 : decode i_X2_reverse.2.1 25 = .ok (.getfield 15, 3) := by decide +kernel
theorem d_X2_reverse_28 : decode i_X2_reverse.2.1 28 = .ok (.aload_n 0, 1) := by decide +kernel
theorem d_X2_reverse_29 : decode i_X2_reverse.2.1 29 = .ok (.getfield 21, 3) := by decide +kernel
theorem d_X2_reverse_32 : decode i_X2_reverse.2.1 32 = .ok (.iconst 1, 1) := by decide +kernel
theorem d_X2_reverse_33 : decode i_X2_reverse.2.1 33 = .ok (.isub, 1) := by decide +kernel
theorem d_X2_reverse_34 : decode i_X2_reverse.2.1 34 = .ok (.iload_n 1, 1) := by decide +kernel
theorem d_X2_reverse_35 : decode i_X2_reverse.2.1 35 = .ok (.isub, 1) := by decide +kernel
theorem d_X2_reverse_36 : decode i_X2_reverse.2.1 36 = .ok (.baload, 1) := by decide +kernel
theorem d_X2_reverse_37 : decode i_X2_reverse.2.1 37 = .ok (.bastore, 1) := by decide +kernel
theorem d_X2_reverse_38 : decode i_X2_reverse.2.1 38 = .ok (.aload_n 0, 1) := by decide +kernel
theorem d_X2_reverse_39 : decode i_X2_reverse.2.1 39 = .ok (.getfield 15, 3) := by decide +kernel
theorem d_X2_reverse_42 : decode i_X2_reverse.2.1 42 = .ok (.aload_n 0, 1) := by decide +kernel
theorem d_X2_reverse_43 : decode i_X2_reverse.2.1 43 = .ok (.getfield 21, 3) := by decide +kernel
theorem d_X2_reverse_46 : decode i_X2_reverse.2.1 46 = .ok (.iconst 1, 1) := by decide +kernel
theorem d_X2_reverse_47 : decode i_X2_reverse.2.1 47 = .ok (.isub, 1) := by decide +kernel
theorem d_X2_reverse_48 : decode i_X2_reverse.2.1 48 = .ok (.iload_n 1, 1) := by decide +kernel
theorem d_X2_reverse_49 : decode i_X2_reverse.2.1 49 = .ok (.isub, 1) := by decide +kernel
theorem d_X2_reverse_50 : decode i_X2_reverse.2.1 50 = .ok (.iload_n 2, 1) := by decide +kernel
theorem d_X2_reverse_51 : decode i_X2_reverse.2.1 51 = .ok (.bastore, 1) := by decide +kernel
theorem d_X2_reverse_52 : decode i_X2_reverse.2.1 52 = .ok (.iinc 1 1, 3) := by decide +kernel
theorem d_X2_reverse_55 : decode i_X2_reverse.2.1 55 = .ok (.goto (-53), 3) := by decide +kernel
theorem d_X2_reverse_58 : decode i_X2_reverse.2.1 58 = .ok (.return_, 1) := by decide +kernel
def BLp_X2_reverse_2 (x0 : Nat) (P2 : Int → Hp → Prop) (x1 : Int) (h : Hp) (Q : Hp → Prop) : Prop :=
  hK h x0 = 2 ∧ (((0 : Int) ≤ hI h x0 1 ∧ (0 : Int) < 2) ∧ (((hI h x0 1) / 2 ≤ x1 → (Q h)) ∧ (¬ (hI h x0 1) / 2 ≤ x1 → (hK h x0 = 2 ∧ ((hK h (hR h x0 0) = 13 ∧ (0 : Int) ≤ x1 ∧ x1 < hL h (hR h x0 0)) ∧ (∀ x2_1 : Int, x2_1 = hI h (hR h x0 0) x1 → (hK h x0 = 2 ∧ (hK h x0 = 2 ∧ (hK h x0 = 2 ∧ (((-2147483648 : Int) ≤ (hI h x0 1) - 1 ∧ (hI h x0 1) - 1 ≤ (2147483647 : Int)) ∧ (((-2147483648 : Int) ≤ ((hI h x0 1) - 1) - x1 ∧ ((hI h x0 1) - 1) - x1 ≤ (2147483647 : Int)) ∧ ((hK h (hR h x0 0) = 13 ∧ (0 : Int) ≤ ((hI h x0 1) - 1) - x1 ∧ ((hI h x0 1) - 1) - x1 < hL h (hR h x0 0)) ∧ ((hK h (hR h x0 0) = 13 ∧ (0 : Int) ≤ x1 ∧ x1 < hL h (hR h x0 0) ∧ ((-128 : Int) ≤ hI h (hR h x0 0) (((hI h x0 1) - 1) - x1) ∧ hI h (hR h x0 0) (((hI h x0 1) - 1) - x1) ≤ (127 : Int))) ∧ ∀ h2 : Hp, h2 = wI h (hR h x0 0) x1 (hI h (hR h x0 0) (((hI h x0 1) - 1) - x1)) → (hK h2 x0 = 2 ∧ (hK h2 x0 = 2 ∧ (((-2147483648 : Int) ≤ (hI h2 x0 1) - 1 ∧ (hI h2 x0 1) - 1 ≤ (2147483647 : Int)) ∧ (((-2147483648 : Int) ≤ ((hI h2 x0 1) - 1) - x1 ∧ ((hI h2 x0 1) - 1) - x1 ≤ (2147483647 : Int)) ∧ ((hK h2 (hR h2 x0 0) = 13 ∧ (0 : Int) ≤ ((hI h2 x0 1) - 1) - x1 ∧ ((hI h2 x0 1) - 1) - x1 < hL h2 (hR h2 x0 0) ∧ ((-128 : Int) ≤ x2_1 ∧ x2_1 ≤ (127 : Int))) ∧ ∀ h3 : Hp, h3 = wI h2 (hR h2 x0 0) (((hI h2 x0 1) - 1) - x1) x2_1 → (((-2147483648 : Int) ≤ x1 + 1 ∧ x1 + 1 ≤ (2147483647 : Int)) ∧ (P2 (x1 + 1) h3))))))))))))))))))))
def Lp_X2_reverse_2 (x0 : Nat) (x1 : Int) (h : Hp) (Q : Hp → Prop) : Prop := ∀ P2 : Int → Hp → Prop, (∀ (x1 : Int) (h : Hp), BLp_X2_reverse_2 x0 P2 x1 h Q → P2 x1 h) → P2 x1 h
theorem Lp_X2_reverse_2_ind {x0 : Nat} {Q : Hp → Prop} (I : Int → Hp → Prop) (μ : Int → Hp → Nat) (hs : ∀ (P2 : Int → Hp → Prop) (x1 : Int) (h : Hp), I x1 h → (∀ (x1' : Int) (h' : Hp), I x1' h' → μ x1' h' < μ x1 h → P2 x1' h') → BLp_X2_reverse_2 x0 P2 x1 h Q) : ∀ (x1 : Int) (h : Hp), I x1 h → Lp_X2_reverse_2 x0 x1 h Q := by
  intro x1 h hI P2 hP
  have key : ∀ (n : Nat) (x1 : Int) (h : Hp), I x1 h → μ x1 h < n → P2 x1 h := by
    intro n
    induction n with
    | zero => intro x1 h _ hl; exact absurd hl (Nat.not_lt_zero _)
    | succ n ih => intro x1 h hi hl; exact hP x1 h (hs P2 x1 h hi (fun x1 h' hi' hl' => ih x1 h' hi' (by omega)))
  exact key _ x1 h hI (Nat.lt_succ_self _)
theorem GLp_X2_reverse_2 (x0 : Nat) (x1 : Int) (h : Hp) (Q : Hp → Prop) (hV : Lp_X2_reverse_2 x0 x1 h Q) : Go i_X2_reverse 2 [(0, .inr (.inr x0)), (1, .inl x1)] [] h (qV Q) := by
  refine hV (fun x1 h => Go i_X2_reverse 2 [(0, .inr (.inr x0)), (1, .inl x1)] [] h (qV Q)) (fun x1 h hV => ?_)
  unfold BLp_X2_reverse_2 at hV
  have hP2 : ∀ (x1 : Int) (h : Hp), Go i_X2_reverse 2 [(0, .inr (.inr x0)), (1, .inl x1)] [] h (qV Q) → Go i_X2_reverse 2 [(0, .inr (.inr x0)), (1, .inl x1)] [] h (qV Q) := fun _ h z => z
  refine s_iload_n d_X2_reverse_2 rfl (ma 1 rfl) ?_
  refine s_aload_n d_X2_reverse_3 rfl (ma 0 rfl) ?_
  obtain ⟨o, hV⟩ := hV
  refine f_RX2_21g rfl d_X2_reverse_4 o ?_
  refine s_iconst d_X2_reverse_7 (okn rfl) ?_
  obtain ⟨o, hV⟩ := hV
  refine s_idiv d_X2_reverse_8 o.1 o.2 ?_
  refine s_icmp_ge (tgt := 58) d_X2_reverse_9 (by decide) (fun c => ?_) (fun c => ?_)
  · have hV := hV.1 c
    exact s_vret d_X2_reverse_58 rfl ⟨rfl, hV⟩
  · have hV := hV.2 c
    refine s_aload_n d_X2_reverse_12 rfl (ma 0 rfl) ?_
    obtain ⟨o, hV⟩ := hV
    refine f_RX2_15g rfl d_X2_reverse_13 o ?_
    refine s_iload_n d_X2_reverse_16 rfl (ma 1 rfl) ?_
    obtain ⟨o, hV⟩ := hV
    refine s_bald d_X2_reverse_17 o.1 o.2.1 o.2.2 ?_
    refine s_nmI (fun x2_1 ex2_1 => ?_)
    have hV := hV x2_1 ex2_1
    refine s_istore_n (lv' := [(2, .inl x2_1), (0, .inr (.inr x0)), (1, .inl x1)]) d_X2_reverse_18 rfl (Nat.le_of_ble_eq_true rfl) rfl ?_
    refine s_aload_n d_X2_reverse_19 rfl (ma 1 rfl) ?_
    obtain ⟨o, hV⟩ := hV
    refine f_RX2_15g rfl d_X2_reverse_20 o ?_
    refine s_iload_n d_X2_reverse_23 rfl (ma 2 rfl) ?_
    refine s_aload_n d_X2_reverse_24 rfl (ma 1 rfl) ?_
    obtain ⟨o, hV⟩ := hV
    refine f_RX2_15g rfl d_X2_reverse_25 o ?_
    refine s_aload_n d_X2_reverse_28 rfl (ma 1 rfl) ?_
    obtain ⟨o, hV⟩ := hV
    refine f_RX2_21g rfl d_X2_reverse_29 o ?_
    refine s_iconst d_X2_reverse_32 (okn rfl) ?_
    obtain ⟨o, hV⟩ := hV
    refine s_isub d_X2_reverse_33 o ?_
    refine s_iload_n d_X2_reverse_34 rfl (ma 2 rfl) ?_
    obtain ⟨o, hV⟩ := hV
    refine s_isub d_X2_reverse_35 o ?_
    obtain ⟨o, hV⟩ := hV
    refine s_bald d_X2_reverse_36 o.1 o.2.1 o.2.2 ?_
    obtain ⟨o, hV⟩ := hV
    refine s_bast d_X2_reverse_37 o.1 o.2.1 o.2.2.1 o.2.2.2 ?_
    refine s_nmH (fun h2 eh2 => ?_)
    have hV := hV h2 eh2
    refine s_aload_n d_X2_reverse_38 rfl (ma 1 rfl) ?_
    obtain ⟨o, hV⟩ := hV
    refine f_RX2_15g rfl d_X2_reverse_39 o ?_
    refine s_aload_n d_X2_reverse_42 rfl (ma 1 rfl) ?_
    obtain ⟨o, hV⟩ := hV
    refine f_RX2_21g rfl d_X2_reverse_43 o ?_
    refine s_iconst d_X2_reverse_46 (okn rfl) ?_
    obtain ⟨o, hV⟩ := hV
    refine s_isub d_X2_reverse_47 o ?_
    refine s_iload_n d_X2_reverse_48 rfl (ma 2 rfl) ?_
    obtain ⟨o, hV⟩ := hV
    refine s_isub d_X2_reverse_49 o ?_
    refine s_iload_n d_X2_reverse_50 rfl (ma 0 rfl) ?_
    obtain ⟨o, hV⟩ := hV
    refine s_bast d_X2_reverse_51 o.1 o.2.1 o.2.2.1 o.2.2.2 ?_
    refine s_nmH (fun h3 eh3 => ?_)
    have hV := hV h3 eh3
    obtain ⟨o, hV⟩ := hV
    refine s_iinc (lv' := [(1, .inl (x1 + 1)), (2, .inl x2_1), (0, .inr (.inr x0))]) d_X2_reverse_52 (ma 2 rfl) o (Nat.le_of_ble_eq_true rfl) rfl ?_
    refine s_goto (tgt := 2) d_X2_reverse_55 (by decide) ?_
    refine s_pick (lv' := [(0, .inr (.inr x0)), (1, .inl (x1 + 1))]) [2, 0] rfl ?_
    exact hP2 _ _ hV
def V_X2_reverse (x0 : Nat) (h : Hp) (Q : Hp → Prop) : Prop :=
  Lp_X2_reverse_2 x0 0 h Q
theorem G_X2_reverse {x0 : Nat} (h : Hp) (Q : Hp → Prop) (hV : V_X2_reverse x0 h Q) : C_X2_reverse x0 h Q := by
  unfold V_X2_reverse at hV
  show Go i_X2_reverse 0 [(0, .inr (.inr x0))] [] h (qV Q)
  refine s_iconst d_X2_reverse_0 (okn rfl) ?_
  refine s_istore_n (lv' := [(1, .inl 0), (0, .inr (.inr x0))]) d_X2_reverse_1 rfl (Nat.le_of_ble_eq_true rfl) rfl ?_
  refine s_pick (lv' := [(0, .inr (.inr x0)), (1, .inl 0)]) [1, 0] rfl ?_
  exact GLp_X2_reverse_2 _ _ _ _ hV

theorem d_X2_copyFrom_0 : decode i_X2_copyFrom.2.1 0 = .ok (.aload_n 0, 1) := by decide +kernel
theorem d_X2_copyFrom_1 : decode i_X2_copyFrom.2.1 1 = .ok (.aload_n 1, 1) := by decide +kernel
theorem d_X2_copyFrom_2 : decode i_X2_copyFrom.2.1 2 = .ok (.getfield 21, 3) := by decide +kernel
theorem d_X2_copyFrom_5 : decode i_X2_copyFrom.2.1 5 = .ok (.invokevirtual 32, 3) := by decide +kernel
theorem d_X2_copyFrom_8 : decode i_X2_copyFrom.2.1 8 = .ok (.aload_n 1, 1) := by decide +kernel
theorem d_X2_copyFrom_9 : decode i_X2_copyFrom.2.1 9 = .ok (.getfield 21, 3) := by decide +kernel
theorem d_X2_copyFrom_12 : decode i_X2_copyFrom.2.1 12 = .ok (.aload_n 0, 1) := by decide +kernel
theorem d_X2_copyFrom_13 : decode i_X2_copyFrom.2.1 13 = .ok (.getfield 15, 3) := by decide +kernel
theorem d_X2_copyFrom_16 : decode i_X2_copyFrom.2.1 16 = .ok (.arraylength, 1) := by decide +kernel
theorem d_X2_copyFrom_17 : decode i_X2_copyFrom.2.1 17 = .ok (.invokestatic 25, 3) := by decide +kernel
theorem d_X2_copyFrom_20 : decode i_X2_copyFrom.2.1 20 = .ok (.istore_n 2, 1) := by decide +kernel
theorem d_X2_copyFrom_21 : decode i_X2_copyFrom.2.1 21 = .ok (.aload_n 1, 1) := by decide +kernel
theorem d_X2_copyFrom_22 : decode i_X2_copyFrom.2.1 22 = .ok (.getfield 15, 3) := by decide +kernel
theorem d_X2_copyFrom_25 : decode i_X2_copyFrom.2.1 25 = .ok (.iconst 0, 1) := by decide +kernel
theorem d_X2_copyFrom_26 : decode i_X2_copyFrom.2.1 26 = .ok (.aload_n 0, 1) := by decide +kernel
theorem d_X2_copyFrom_27 : decode i_X2_copyFrom.2.1 27 = .ok (.getfield 15, 3) := by decide +kernel
theorem d_X2_copyFrom_30 : decode i_X2_copyFrom.2.1 30 = .ok (.iconst 0, 1) := by decide +kernel
theorem d_X2_copyFrom_31 : decode i_X2_copyFrom.2.1 31 = .ok (.iload_n 2, 1) := by decide +kernel
theorem d_X2_copyFrom_32 : decode i_X2_copyFrom.2.1 32 = .ok (.invokestatic 36, 3) := by decide +kernel
theorem d_X2_copyFrom_35 : decode i_X2_copyFrom.2.1 35 = .ok (.aload_n 0, 1) := by decide +kernel
theorem d_X2_copyFrom_36 : decode i_X2_copyFrom.2.1 36 = .ok (.iload_n 2, 1) := by decide +kernel
theorem d_X2_copyFrom_37 : decode i_X2_copyFrom.2.1 37 = .ok (.putfield 21, 3) := by decide +kernel
theorem d_X2_copyFrom_40 : decode i_X2_copyFrom.2.1 40 = .ok (.return_, 1) := by decide +kernel
def V_X2_copyFrom (x0 : Nat) (x1 : Nat) (h : Hp) (Q : Hp → Prop) : Prop :=
  hK h x1 = 2 ∧ (hK h x0 = 2 ∧ C_X2_startOver x0 (hI h x1 1) h (fun h1 => (hK h1 x1 = 2 ∧ (hK h1 x0 = 2 ∧ (hK h1 (hR h1 x0 0) = 13 ∧ (∀ x2_2 : Int, x2_2 = min (hI h1 x1 1) (hL h1 (hR h1 x0 0)) → (hK h1 x1 = 2 ∧ (hK h1 x0 = 2 ∧ ((hK h1 (hR h1 x1 0) = 13 ∧ hK h1 (hR h1 x0 0) = 13 ∧ (0 : Int) ≤ 0 ∧ (0 : Int) ≤ 0 ∧ (0 : Int) ≤ x2_2 ∧ 0 + x2_2 ≤ hL h1 (hR h1 x1 0) ∧ 0 + x2_2 ≤ hL h1 (hR h1 x0 0)) ∧ ∀ h3 : Hp, h3 = cpI h1 (hR h1 x1 0) 0 (hR h1 x0 0) 0 x2_2 → (hK h3 x0 = 2 ∧ ∀ h4 : Hp, h4 = wI h3 x0 1 x2_2 → (Q h4)))))))))))
theorem G_X2_copyFrom {x0 : Nat} {x1 : Nat} (h : Hp) (Q : Hp → Prop) (hV : V_X2_copyFrom x0 x1 h Q) : C_X2_copyFrom x0 x1 h Q := by
  unfold V_X2_copyFrom at hV
  show Go i_X2_copyFrom 0 [(0, .inr (.inr x0)), (1, .inr (.inr x1))] [] h (qV Q)
  refine s_aload_n d_X2_copyFrom_0 rfl (ma 0 rfl) ?_
  refine s_aload_n d_X2_copyFrom_1 rfl (ma 1 rfl) ?_
  obtain ⟨o, hV⟩ := hV
  refine f_RX2_21g rfl d_X2_copyFrom_2 o ?_
  obtain ⟨o, hV⟩ := hV
  refine v_RX2_32 rfl (Nat.le_of_ble_eq_true rfl) d_X2_copyFrom_5 o (Nat.le_of_ble_eq_true rfl) hV (fun h1 hV => ?_)
  refine s_aload_n d_X2_copyFrom_8 rfl (ma 1 rfl) ?_
  obtain ⟨o, hV⟩ := hV
  refine f_RX2_21g rfl d_X2_copyFrom_9 o ?_
  refine s_aload_n d_X2_copyFrom_12 rfl (ma 0 rfl) ?_
  obtain ⟨o, hV⟩ := hV
  refine f_RX2_15g rfl d_X2_copyFrom_13 o ?_
  obtain ⟨o, hV⟩ := hV
  refine s_blen d_X2_copyFrom_16 o ?_
  refine s_mmin d_X2_copyFrom_17 mm_RX2_25 (Nat.le_of_ble_eq_true rfl) (Nat.le_of_ble_eq_true rfl) ?_
  refine s_nmI (fun x2_2 ex2_2 => ?_)
  have hV := hV x2_2 ex2_2
  refine s_istore_n (lv' := [(2, .inl x2_2), (0, .inr (.inr x0)), (1, .inr (.inr x1))]) d_X2_copyFrom_20 rfl (Nat.le_of_ble_eq_true rfl) rfl ?_
  refine s_aload_n d_X2_copyFrom_21 rfl (ma 2 rfl) ?_
  obtain ⟨o, hV⟩ := hV
  refine f_RX2_15g rfl d_X2_copyFrom_22 o ?_
  refine s_iconst d_X2_copyFrom_25 (okn rfl) ?_
  refine s_aload_n d_X2_copyFrom_26 rfl (ma 1 rfl) ?_
  obtain ⟨o, hV⟩ := hV
  refine f_RX2_15g rfl d_X2_copyFrom_27 o ?_
  refine s_iconst d_X2_copyFrom_30 (okn rfl) ?_
  refine s_iload_n d_X2_copyFrom_31 rfl (ma 0 rfl) ?_
  obtain ⟨o, hV⟩ := hV
  refine s_acpy d_X2_copyFrom_32 sy_RX2_36 sy_nat sy_sta sy_ini (Nat.le_of_ble_eq_true rfl) rfl o.1 o.2.1 o.2.2.1 o.2.2.2.1 o.2.2.2.2.1 o.2.2.2.2.2.1 o.2.2.2.2.2.2 ?_
  refine s_nmH (fun h3 eh3 => ?_)
  have hV := hV h3 eh3
  refine s_aload_n d_X2_copyFrom_35 rfl (ma 1 rfl) ?_
  refine s_iload_n d_X2_copyFrom_36 rfl (ma 0 rfl) ?_
  obtain ⟨o, hV⟩ := hV
  refine f_RX2_21p rfl d_X2_copyFrom_37 o (fun h4 eh4 => ?_)
  have hV := hV h4 eh4
  exact s_vret d_X2_copyFrom_40 rfl ⟨rfl, hV⟩

theorem d_X2_same_0 : decode i_X2_same.2.1 0 = .ok (.aload_n 0, 1) := by decide +kernel
theorem d_X2_same_1 : decode i_X2_same.2.1 1 = .ok (.getfield 21, 3) := by decide +kernel
theorem d_X2_same_4 : decode i_X2_same.2.1 4 = .ok (.aload_n 1, 1) := by decide +kernel
theorem d_X2_same_5 : decode i_X2_same.2.1 5 = .ok (.getfield 21, 3) := by decide +kernel
theorem d_X2_same_8 : decode i_X2_same.2.1 8 = .ok (.if_icmp .ne 16, 3) := by decide +kernel
theorem d_X2_same_11 : decode i_X2_same.2.1 11 = .ok (.aload_n 0, 1) := by decide +kernel
theorem d_X2_same_12 : decode i_X2_same.2.1 12 = .ok (.iconst 0, 1) := by decide +kernel
theorem d_X2_same_13 : decode i_X2_same.2.1 13 = .ok (.aload_n 1, 1) := by decide +kernel
theorem d_X2_same_14 : decode i_X2_same.2.1 14 = .ok (.invokevirtual 42, 3) := by decide +kernel
theorem d_X2_same_17 : decode i_X2_same.2.1 17 = .ok (.ifCond .eq 7, 3) := by decide +kernel
theorem d_X2_same_20 : decode i_X2_same.2.1 20 = .ok (.iconst 1, 1) := by decide +kernel
theorem d_X2_same_21 : decode i_X2_same.2.1 21 = .ok (.goto 4, 3) := by decide +kernel
theorem d_X2_same_24 : decode i_X2_same.2.1 24 = .ok (.iconst 0, 1) := by decide +kernel
theorem d_X2_same_25 : decode i_X2_same.2.1 25 = .ok (.ireturn, 1) := by decide +kernel
def V_X2_same (x0 : Nat) (x1 : Nat) (h : Hp) (Q : Int → Hp → Prop) : Prop :=
  hK h x0 = 2 ∧ (hK h x1 = 2 ∧ ((hI h x0 1 ≠ hI h x1 1 → (Q 0 h)) ∧ (hI h x0 1 = hI h x1 1 → (hK h x0 = 2 ∧ C_X2_standsAt x0 0 x1 h (fun r2 h1 => ((r2 = 0 → (Q 0 h1)) ∧ (¬ r2 = 0 → (Q 1 h1))))))))
theorem G_X2_same {x0 : Nat} {x1 : Nat} (h : Hp) (Q : Int → Hp → Prop) (hV : V_X2_same x0 x1 h Q) : C_X2_same x0 x1 h Q := by
  unfold V_X2_same at hV
  show Go i_X2_same 0 [(0, .inr (.inr x0)), (1, .inr (.inr x1))] [] h (qI Q)
  refine s_aload_n d_X2_same_0 rfl (ma 0 rfl) ?_
  obtain ⟨o, hV⟩ := hV
  refine f_RX2_21g rfl d_X2_same_1 o ?_
  refine s_aload_n d_X2_same_4 rfl (ma 1 rfl) ?_
  obtain ⟨o, hV⟩ := hV
  refine f_RX2_21g rfl d_X2_same_5 o ?_
  refine s_icmp_ne (tgt := 24) d_X2_same_8 (by decide) (fun c => ?_) (fun c => ?_)
  · have hV := hV.1 c
    refine s_iconst d_X2_same_24 (okn rfl) ?_
    exact s_iret d_X2_same_25 rfl (nar_z (Or.inl rfl)) ⟨_, rfl, hV⟩
  · have hV := hV.2 c
    refine s_aload_n d_X2_same_11 rfl (ma 0 rfl) ?_
    refine s_iconst d_X2_same_12 (okn rfl) ?_
    refine s_aload_n d_X2_same_13 rfl (ma 1 rfl) ?_
    obtain ⟨o, hV⟩ := hV
    refine v_RX2_42 rfl (Nat.le_of_ble_eq_true rfl) d_X2_same_14 o (Nat.le_of_ble_eq_true rfl) hV (fun r2 h1 hV => ?_)
    refine s_if_eq (tgt := 24) d_X2_same_17 (by decide) (fun c => ?_) (fun c => ?_)
    · have hV := hV.1 c
      refine s_iconst d_X2_same_24 (okn rfl) ?_
      exact s_iret d_X2_same_25 rfl (nar_z (Or.inl rfl)) ⟨_, rfl, hV⟩
    · have hV := hV.2 c
      refine s_iconst d_X2_same_20 (okn rfl) ?_
      refine s_goto (tgt := 25) d_X2_same_21 (by decide) ?_
      exact s_iret d_X2_same_25 rfl (nar_z (Or.inr rfl)) ⟨_, rfl, hV⟩

theorem d_X2_standsAt_0 : decode i_X2_standsAt.2.1 0 = .ok (.iload_n 1, 1) := by decide +kernel
theorem d_X2_standsAt_1 : decode i_X2_standsAt.2.1 1 = .ok (.ifCond .lt 16, 3) := by decide +kernel
theorem d_X2_standsAt_4 : decode i_X2_standsAt.2.1 4 = .ok (.aload_n 2, 1) := by decide +kernel
theorem d_X2_standsAt_5 : decode i_X2_standsAt.2.1 5 = .ok (.getfield 21, 3) := by decide +kernel
theorem d_X2_standsAt_8 : decode i_X2_standsAt.2.1 8 = .ok (.aload_n 0, 1) := by decide +kernel
theorem d_X2_standsAt_9 : decode i_X2_standsAt.2.1 9 = .ok (.getfield 21, 3) := by decide +kernel
theorem d_X2_standsAt_12 : decode i_X2_standsAt.2.1 12 = .ok (.iload_n 1, 1) := by decide +kernel
theorem d_X2_standsAt_13 : decode i_X2_standsAt.2.1 13 = .ok (.isub, 1) := by decide +kernel
theorem d_X2_standsAt_14 : decode i_X2_standsAt.2.1 14 = .ok (.if_icmp .le 5, 3) := by decide +kernel
theorem d_X2_standsAt_17 : decode i_X2_standsAt.2.1 17 = .ok (.iconst 0, 1) := by decide +kernel
theorem d_X2_standsAt_18 : decode i_X2_standsAt.2.1 18 = .ok (.ireturn, 1) := by decide +kernel
theorem d_X2_standsAt_19 : decode i_X2_standsAt.2.1 19 = .ok (.iconst 0, 1) := by decide +kernel
theorem d_X2_standsAt_20 : decode i_X2_standsAt.2.1 20 = .ok (.istore_n 3, 1) := by decide +kernel
theorem d_X2_standsAt_21 : decode i_X2_standsAt.2.1 21 = .ok (.iload_n 3, 1) := by decide +kernel
theorem d_X2_standsAt_22 : decode i_X2_standsAt.2.1 22 = .ok (.aload_n 2, 1) := by decide +kernel
theorem d_X2_standsAt_23 : decode i_X2_standsAt.2.1 23 = .ok (.getfield 21, 3) := by decide +kernel
theorem d_X2_standsAt_26 : decode i_X2_standsAt.2.1 26 = .ok (.if_icmp .ge 28, 3) := by decide +kernel
theorem d_X2_standsAt_29 : decode i_X2_standsAt.2.1 29 = .ok (.aload_n 0, 1) := by decide +kernel
theorem d_X2_standsAt_30 : decode i_X2_standsAt.2.1 30 = .ok (.getfield 15, 3) := by decide +kernel
theorem d_X2_standsAt_33 : decode i_X2_standsAt.2.1 33 = .ok (.iload_n 1, 1) := by decide +kernel
theorem d_X2_standsAt_34 : decode i_X2_standsAt.2.1 34 = .ok (.iload_n 3, 1) := by decide +kernel
theorem d_X2_standsAt_35 : decode i_X2_standsAt.2.1 35 = .ok (.iadd, 1) := by decide +kernel
theorem d_X2_standsAt_36 : decode i_X2_standsAt.2.1 36 = .ok (.baload, 1) := by decide +kernel
theorem d_X2_standsAt_37 : decode i_X2_standsAt.2.1 37 = .ok (.aload_n 2, 1) := by decide +kernel
theorem d_X2_standsAt_38 : decode i_X2_standsAt.2.1 38 = .ok (.getfield 15, 3) := by decide +kernel
theorem d_X2_standsAt_41 : decode i_X2_standsAt.2.1 41 = .ok (.iload_n 3, 1) := by decide +kernel
theorem d_X2_standsAt_42 : decode i_X2_standsAt.2.1 42 = .ok (.baload, 1) := by decide +kernel
theorem d_X2_standsAt_43 : decode i_X2_standsAt.2.1 43 = .ok (.if_icmp .eq 5, 3) := by decide +kernel
theorem d_X2_standsAt_46 : decode i_X2_standsAt.2.1 46 = .ok (.iconst 0, 1) := by decide +kernel
theorem d_X2_standsAt_47 : decode i_X2_standsAt.2.1 47 = .ok (.ireturn, 1) := by decide +kernel
theorem d_X2_standsAt_48 : decode i_X2_standsAt.2.1 48 = .ok (.iinc 3 1, 3) := by decide +kernel
theorem d_X2_standsAt_51 : decode i_X2_standsAt.2.1 51 = .ok (.goto (-30), 3) := by decide +kernel
theorem d_X2_standsAt_54 : decode i_X2_standsAt.2.1 54 = .ok (.iconst 1, 1) := by decide +kernel
theorem d_X2_standsAt_55 : decode i_X2_standsAt.2.1 55 = .ok (.ireturn, 1) := by decide +kernel
def BLp_X2_standsAt_21 (x0 : Nat) (x1 : Int) (x2 : Nat) (P21 : Int → Hp → Prop) (x3 : Int) (h : Hp) (Q : Int → Hp → Prop) : Prop :=
  hK h x2 = 2 ∧ ((hI h x2 1 ≤ x3 → (Q 1 h)) ∧ (¬ hI h x2 1 ≤ x3 → (hK h x0 = 2 ∧ (((-2147483648 : Int) ≤ x1 + x3 ∧ x1 + x3 ≤ (2147483647 : Int)) ∧ ((hK h (hR h x0 0) = 13 ∧ (0 : Int) ≤ x1 + x3 ∧ x1 + x3 < hL h (hR h x0 0)) ∧ (hK h x2 = 2 ∧ ((hK h (hR h x2 0) = 13 ∧ (0 : Int) ≤ x3 ∧ x3 < hL h (hR h x2 0)) ∧ ((hI h (hR h x0 0) (x1 + x3) = hI h (hR h x2 0) x3 → (((-2147483648 : Int) ≤ x3 + 1 ∧ x3 + 1 ≤ (2147483647 : Int)) ∧ (P21 (x3 + 1) h))) ∧ (¬ hI h (hR h x0 0) (x1 + x3) = hI h (hR h x2 0) x3 → (Q 0 h))))))))))
def Lp_X2_standsAt_21 (x0 : Nat) (x1 : Int) (x2 : Nat) (x3 : Int) (h : Hp) (Q : Int → Hp → Prop) : Prop := ∀ P21 : Int → Hp → Prop, (∀ (x3 : Int) (h : Hp), BLp_X2_standsAt_21 x0 x1 x2 P21 x3 h Q → P21 x3 h) → P21 x3 h
theorem Lp_X2_standsAt_21_ind {x0 : Nat} {x1 : Int} {x2 : Nat} {Q : Int → Hp → Prop} (I : Int → Hp → Prop) (μ : Int → Hp → Nat) (hs : ∀ (P21 : Int → Hp → Prop) (x3 : Int) (h : Hp), I x3 h → (∀ (x3' : Int) (h' : Hp), I x3' h' → μ x3' h' < μ x3 h → P21 x3' h') → BLp_X2_standsAt_21 x0 x1 x2 P21 x3 h Q) : ∀ (x3 : Int) (h : Hp), I x3 h → Lp_X2_standsAt_21 x0 x1 x2 x3 h Q := by
  intro x3 h hI P21 hP
  have key : ∀ (n : Nat) (x3 : Int) (h : Hp), I x3 h → μ x3 h < n → P21 x3 h := by
    intro n
    induction n with
    | zero => intro x3 h _ hl; exact absurd hl (Nat.not_lt_zero _)
    | succ n ih => intro x3 h hi hl; exact hP x3 h (hs P21 x3 h hi (fun x3 h' hi' hl' => ih x3 h' hi' (by omega)))
  exact key _ x3 h hI (Nat.lt_succ_self _)
theorem GLp_X2_standsAt_21 (x0 : Nat) (x1 : Int) (x2 : Nat) (x3 : Int) (h : Hp) (Q : Int → Hp → Prop) (hV : Lp_X2_standsAt_21 x0 x1 x2 x3 h Q) : Go i_X2_standsAt 21 [(0, .inr (.inr x0)), (1, .inl x1), (2, .inr (.inr x2)), (3, .inl x3)] [] h (qI Q) := by
  refine hV (fun x3 h => Go i_X2_standsAt 21 [(0, .inr (.inr x0)), (1, .inl x1), (2, .inr (.inr x2)), (3, .inl x3)] [] h (qI Q)) (fun x3 h hV => ?_)
  unfold BLp_X2_standsAt_21 at hV
  have hP21 : ∀ (x3 : Int) (h : Hp), Go i_X2_standsAt 21 [(0, .inr (.inr x0)), (1, .inl x1), (2, .inr (.inr x2)), (3, .inl x3)] [] h (qI Q) → Go i_X2_standsAt 21 [(0, .inr (.inr x0)), (1, .inl x1), (2, .inr (.inr x2)), (3, .inl x3)] [] h (qI Q) := fun _ h z => z
  refine s_iload_n d_X2_standsAt_21 rfl (ma 3 rfl) ?_
  refine s_aload_n d_X2_standsAt_22 rfl (ma 2 rfl) ?_
  obtain ⟨o, hV⟩ := hV
  refine f_RX2_21g rfl d_X2_standsAt_23 o ?_
  refine s_icmp_ge (tgt := 54) d_X2_standsAt_26 (by decide) (fun c => ?_) (fun c => ?_)
  · have hV := hV.1 c
    refine s_iconst d_X2_standsAt_54 (okn rfl) ?_
    exact s_iret d_X2_standsAt_55 rfl (nar_z (Or.inr rfl)) ⟨_, rfl, hV⟩
  · have hV := hV.2 c
    refine s_aload_n d_X2_standsAt_29 rfl (ma 0 rfl) ?_
    obtain ⟨o, hV⟩ := hV
    refine f_RX2_15g rfl d_X2_standsAt_30 o ?_
    refine s_iload_n d_X2_standsAt_33 rfl (ma 1 rfl) ?_
    refine s_iload_n d_X2_standsAt_34 rfl (ma 3 rfl) ?_
    obtain ⟨o, hV⟩ := hV
    refine s_iadd d_X2_standsAt_35 o ?_
    obtain ⟨o, hV⟩ := hV
    refine s_bald d_X2_standsAt_36 o.1 o.2.1 o.2.2 ?_
    refine s_aload_n d_X2_standsAt_37 rfl (ma 2 rfl) ?_
    obtain ⟨o, hV⟩ := hV
    refine f_RX2_15g rfl d_X2_standsAt_38 o ?_
    refine s_iload_n d_X2_standsAt_41 rfl (ma 3 rfl) ?_
    obtain ⟨o, hV⟩ := hV
    refine s_bald d_X2_standsAt_42 o.1 o.2.1 o.2.2 ?_
    refine s_icmp_eq (tgt := 48) d_X2_standsAt_43 (by decide) (fun c => ?_) (fun c => ?_)
    · have hV := hV.1 c
      obtain ⟨o, hV⟩ := hV
      refine s_iinc (lv' := [(3, .inl (x3 + 1)), (0, .inr (.inr x0)), (1, .inl x1), (2, .inr (.inr x2))]) d_X2_standsAt_48 (ma 3 rfl) o (Nat.le_of_ble_eq_true rfl) rfl ?_
      refine s_goto (tgt := 21) d_X2_standsAt_51 (by decide) ?_
      refine s_pick (lv' := [(0, .inr (.inr x0)), (1, .inl x1), (2, .inr (.inr x2)), (3, .inl (x3 + 1))]) [1, 2, 3, 0] rfl ?_
      exact hP21 _ _ hV
    · have hV := hV.2 c
      refine s_iconst d_X2_standsAt_46 (okn rfl) ?_
      exact s_iret d_X2_standsAt_47 rfl (nar_z (Or.inl rfl)) ⟨_, rfl, hV⟩
def V_X2_standsAt (x0 : Nat) (x1 : Int) (x2 : Nat) (h : Hp) (Q : Int → Hp → Prop) : Prop :=
  (x1 < 0 → (Q 0 h)) ∧ (¬ x1 < 0 → (hK h x2 = 2 ∧ (hK h x0 = 2 ∧ (((-2147483648 : Int) ≤ (hI h x0 1) - x1 ∧ (hI h x0 1) - x1 ≤ (2147483647 : Int)) ∧ ((hI h x2 1 ≤ (hI h x0 1) - x1 → (Lp_X2_standsAt_21 x0 x1 x2 0 h Q)) ∧ (¬ hI h x2 1 ≤ (hI h x0 1) - x1 → (Q 0 h)))))))
theorem G_X2_standsAt {x0 : Nat} {x1 : Int} {x2 : Nat} (h : Hp) (Q : Int → Hp → Prop) (hV : V_X2_standsAt x0 x1 x2 h Q) : C_X2_standsAt x0 x1 x2 h Q := by
  unfold V_X2_standsAt at hV
  show Go i_X2_standsAt 0 [(0, .inr (.inr x0)), (1, .inl x1), (2, .inr (.inr x2))] [] h (qI Q)
  refine s_iload_n d_X2_standsAt_0 rfl (ma 1 rfl) ?_
  refine s_if_lt (tgt := 17) d_X2_standsAt_1 (by decide) (fun c => ?_) (fun c => ?_)
  · have hV := hV.1 c
    refine s_iconst d_X2_standsAt_17 (okn rfl) ?_
    exact s_iret d_X2_standsAt_18 rfl (nar_z (Or.inl rfl)) ⟨_, rfl, hV⟩
  · have hV := hV.2 c
    refine s_aload_n d_X2_standsAt_4 rfl (ma 2 rfl) ?_
    obtain ⟨o, hV⟩ := hV
    refine f_RX2_21g rfl d_X2_standsAt_5 o ?_
    refine s_aload_n d_X2_standsAt_8 rfl (ma 0 rfl) ?_
    obtain ⟨o, hV⟩ := hV
    refine f_RX2_21g rfl d_X2_standsAt_9 o ?_
    refine s_iload_n d_X2_standsAt_12 rfl (ma 1 rfl) ?_
    obtain ⟨o, hV⟩ := hV
    refine s_isub d_X2_standsAt_13 o ?_
    refine s_icmp_le (tgt := 19) d_X2_standsAt_14 (by decide) (fun c => ?_) (fun c => ?_)
    · have hV := hV.1 c
      refine s_iconst d_X2_standsAt_19 (okn rfl) ?_
      refine s_istore_n (lv' := [(3, .inl 0), (0, .inr (.inr x0)), (1, .inl x1), (2, .inr (.inr x2))]) d_X2_standsAt_20 rfl (Nat.le_of_ble_eq_true rfl) rfl ?_
      refine s_pick (lv' := [(0, .inr (.inr x0)), (1, .inl x1), (2, .inr (.inr x2)), (3, .inl 0)]) [1, 2, 3, 0] rfl ?_
      exact GLp_X2_standsAt_21 _ _ _ _ _ _ hV
    · have hV := hV.2 c
      refine s_iconst d_X2_standsAt_17 (okn rfl) ?_
      exact s_iret d_X2_standsAt_18 rfl (nar_z (Or.inl rfl)) ⟨_, rfl, hV⟩

theorem d_X2_placeOf_0 : decode i_X2_placeOf.2.1 0 = .ok (.iconst 0, 1) := by decide +kernel
theorem d_X2_placeOf_1 : decode i_X2_placeOf.2.1 1 = .ok (.istore_n 2, 1) := by decide +kernel
theorem d_X2_placeOf_2 : decode i_X2_placeOf.2.1 2 = .ok (.iload_n 2, 1) := by decide +kernel
theorem d_X2_placeOf_3 : decode i_X2_placeOf.2.1 3 = .ok (.aload_n 1, 1) := by decide +kernel
theorem d_X2_placeOf_4 : decode i_X2_placeOf.2.1 4 = .ok (.getfield 21, 3) := by decide +kernel
theorem d_X2_placeOf_7 : decode i_X2_placeOf.2.1 7 = .ok (.iadd, 1) := by decide +kernel
theorem d_X2_placeOf_8 : decode i_X2_placeOf.2.1 8 = .ok (.aload_n 0, 1) := by decide +kernel
theorem d_X2_placeOf_9 : decode i_X2_placeOf.2.1 9 = .ok (.getfield 21, 3) := by decide +kernel
theorem d_X2_placeOf_12 : decode i_X2_placeOf.2.1 12 = .ok (.if_icmp .gt 20, 3) := by decide +kernel
theorem d_X2_placeOf_15 : decode i_X2_placeOf.2.1 15 = .ok (.aload_n 0, 1) := by decide +kernel
theorem d_X2_placeOf_16 : decode i_X2_placeOf.2.1 16 = .ok (.iload_n 2, 1) := by decide +kernel
theorem d_X2_placeOf_17 : decode i_X2_placeOf.2.1 17 = .ok (.aload_n 1, 1) := by decide +kernel
theorem d_X2_placeOf_18 : decode i_X2_placeOf.2.1 18 = .ok (.invokevirtual 42, 3) := by decide +kernel
theorem d_X2_placeOf_21 : decode i_X2_placeOf.2.1 21 = .ok (.ifCond .eq 5, 3) := by decide +kernel
theorem d_X2_placeOf_24 : decode i_X2_placeOf.2.1 24 = .ok (.iload_n 2, 1) := by decide +kernel
theorem d_X2_placeOf_25 : decode i_X2_placeOf.2.1 25 = .ok (.ireturn, 1) := by decide +kernel
theorem d_X2_placeOf_26 : decode i_X2_placeOf.2.1 26 = .ok (.iinc 2 1, 3) := by decide +kernel
theorem d_X2_placeOf_29 : decode i_X2_placeOf.2.1 29 = .ok (.goto (-27), 3) := by decide +kernel
theorem d_X2_placeOf_32 : decode i_X2_placeOf.2.1 32 = .ok (.iconst (-1), 1) := by decide +kernel
theorem d_X2_placeOf_33 : decode i_X2_placeOf.2.1 33 = .ok (.ireturn, 1) := by decide +kernel
def BLp_X2_placeOf_2 (x0 : Nat) (x1 : Nat) (P2 : Int → Hp → Prop) (x2 : Int) (h : Hp) (Q : Int → Hp → Prop) : Prop :=
  hK h x1 = 2 ∧ (((-2147483648 : Int) ≤ x2 + (hI h x1 1) ∧ x2 + (hI h x1 1) ≤ (2147483647 : Int)) ∧ (hK h x0 = 2 ∧ ((hI h x0 1 < x2 + (hI h x1 1) → (Q (-1) h)) ∧ (¬ hI h x0 1 < x2 + (hI h x1 1) → (hK h x0 = 2 ∧ C_X2_standsAt x0 x2 x1 h (fun r2 h1 => ((r2 = 0 → (((-2147483648 : Int) ≤ x2 + 1 ∧ x2 + 1 ≤ (2147483647 : Int)) ∧ (P2 (x2 + 1) h1))) ∧ (¬ r2 = 0 → (Q x2 h1)))))))))
def Lp_X2_placeOf_2 (x0 : Nat) (x1 : Nat) (x2 : Int) (h : Hp) (Q : Int → Hp → Prop) : Prop := ∀ P2 : Int → Hp → Prop, (∀ (x2 : Int) (h : Hp), BLp_X2_placeOf_2 x0 x1 P2 x2 h Q → P2 x2 h) → P2 x2 h
theorem Lp_X2_placeOf_2_ind {x0 : Nat} {x1 : Nat} {Q : Int → Hp → Prop} (I : Int → Hp → Prop) (μ : Int → Hp → Nat) (hs : ∀ (P2 : Int → Hp → Prop) (x2 : Int) (h : Hp), I x2 h → (∀ (x2' : Int) (h' : Hp), I x2' h' → μ x2' h' < μ x2 h → P2 x2' h') → BLp_X2_placeOf_2 x0 x1 P2 x2 h Q) : ∀ (x2 : Int) (h : Hp), I x2 h → Lp_X2_placeOf_2 x0 x1 x2 h Q := by
  intro x2 h hI P2 hP
  have key : ∀ (n : Nat) (x2 : Int) (h : Hp), I x2 h → μ x2 h < n → P2 x2 h := by
    intro n
    induction n with
    | zero => intro x2 h _ hl; exact absurd hl (Nat.not_lt_zero _)
    | succ n ih => intro x2 h hi hl; exact hP x2 h (hs P2 x2 h hi (fun x2 h' hi' hl' => ih x2 h' hi' (by omega)))
  exact key _ x2 h hI (Nat.lt_succ_self _)
theorem GLp_X2_placeOf_2 (x0 : Nat) (x1 : Nat) (x2 : Int) (h : Hp) (Q : Int → Hp → Prop) (hV : Lp_X2_placeOf_2 x0 x1 x2 h Q) : Go i_X2_placeOf 2 [(0, .inr (.inr x0)), (1, .inr (.inr x1)), (2, .inl x2)] [] h (qI Q) := by
  refine hV (fun x2 h => Go i_X2_placeOf 2 [(0, .inr (.inr x0)), (1, .inr (.inr x1)), (2, .inl x2)] [] h (qI Q)) (fun x2 h hV => ?_)
  unfold BLp_X2_placeOf_2 at hV
  have hP2 : ∀ (x2 : Int) (h : Hp), Go i_X2_placeOf 2 [(0, .inr (.inr x0)), (1, .inr (.inr x1)), (2, .inl x2)] [] h (qI Q) → Go i_X2_placeOf 2 [(0, .inr (.inr x0)), (1, .inr (.inr x1)), (2, .inl x2)] [] h (qI Q) := fun _ h z => z
  refine s_iload_n d_X2_placeOf_2 rfl (ma 2 rfl) ?_
  refine s_aload_n d_X2_placeOf_3 rfl (ma 1 rfl) ?_
  obtain ⟨o, hV⟩ := hV
  refine f_RX2_21g rfl d_X2_placeOf_4 o ?_
  obtain ⟨o, hV⟩ := hV
  refine s_iadd d_X2_placeOf_7 o ?_
  refine s_aload_n d_X2_placeOf_8 rfl (ma 0 rfl) ?_
  obtain ⟨o, hV⟩ := hV
  refine f_RX2_21g rfl d_X2_placeOf_9 o ?_
  refine s_icmp_gt (tgt := 32) d_X2_placeOf_12 (by decide) (fun c => ?_) (fun c => ?_)
  · have hV := hV.1 c
    refine s_iconst d_X2_placeOf_32 (okn rfl) ?_
    exact s_iret d_X2_placeOf_33 rfl rfl ⟨_, rfl, hV⟩
  · have hV := hV.2 c
    refine s_aload_n d_X2_placeOf_15 rfl (ma 0 rfl) ?_
    refine s_iload_n d_X2_placeOf_16 rfl (ma 2 rfl) ?_
    refine s_aload_n d_X2_placeOf_17 rfl (ma 1 rfl) ?_
    obtain ⟨o, hV⟩ := hV
    refine v_RX2_42 rfl (Nat.le_of_ble_eq_true rfl) d_X2_placeOf_18 o (Nat.le_of_ble_eq_true rfl) hV (fun r2 h1 hV => ?_)
    refine s_if_eq (tgt := 26) d_X2_placeOf_21 (by decide) (fun c => ?_) (fun c => ?_)
    · have hV := hV.1 c
      obtain ⟨o, hV⟩ := hV
      refine s_iinc (lv' := [(2, .inl (x2 + 1)), (0, .inr (.inr x0)), (1, .inr (.inr x1))]) d_X2_placeOf_26 (ma 2 rfl) o (Nat.le_of_ble_eq_true rfl) rfl ?_
      refine s_goto (tgt := 2) d_X2_placeOf_29 (by decide) ?_
      refine s_pick (lv' := [(0, .inr (.inr x0)), (1, .inr (.inr x1)), (2, .inl (x2 + 1))]) [1, 2, 0] rfl ?_
      exact hP2 _ _ hV
    · have hV := hV.2 c
      refine s_iload_n d_X2_placeOf_24 rfl (ma 2 rfl) ?_
      exact s_iret d_X2_placeOf_25 rfl rfl ⟨_, rfl, hV⟩
def V_X2_placeOf (x0 : Nat) (x1 : Nat) (h : Hp) (Q : Int → Hp → Prop) : Prop :=
  Lp_X2_placeOf_2 x0 x1 0 h Q
theorem G_X2_placeOf {x0 : Nat} {x1 : Nat} (h : Hp) (Q : Int → Hp → Prop) (hV : V_X2_placeOf x0 x1 h Q) : C_X2_placeOf x0 x1 h Q := by
  unfold V_X2_placeOf at hV
  show Go i_X2_placeOf 0 [(0, .inr (.inr x0)), (1, .inr (.inr x1))] [] h (qI Q)
  refine s_iconst d_X2_placeOf_0 (okn rfl) ?_
  refine s_istore_n (lv' := [(2, .inl 0), (0, .inr (.inr x0)), (1, .inr (.inr x1))]) d_X2_placeOf_1 rfl (Nat.le_of_ble_eq_true rfl) rfl ?_
  refine s_pick (lv' := [(0, .inr (.inr x0)), (1, .inr (.inr x1)), (2, .inl 0)]) [1, 2, 0] rfl ?_
  exact GLp_X2_placeOf_2 _ _ _ _ _ hV

theorem d_X2_countOf_0 : decode i_X2_countOf.2.1 0 = .ok (.iconst 0, 1) := by decide +kernel
theorem d_X2_countOf_1 : decode i_X2_countOf.2.1 1 = .ok (.istore_n 2, 1) := by decide +kernel
theorem d_X2_countOf_2 : decode i_X2_countOf.2.1 2 = .ok (.iconst 0, 1) := by decide +kernel
theorem d_X2_countOf_3 : decode i_X2_countOf.2.1 3 = .ok (.istore_n 3, 1) := by decide +kernel
theorem d_X2_countOf_4 : decode i_X2_countOf.2.1 4 = .ok (.iload_n 3, 1) := by decide +kernel
theorem d_X2_countOf_5 : decode i_X2_countOf.2.1 5 = .ok (.aload_n 0, 1) := by decide +kernel
theorem d_X2_countOf_6 : decode i_X2_countOf.2.1 6 = .ok (.getfield 21, 3) := by decide +kernel
theorem d_X2_countOf_9 : decode i_X2_countOf.2.1 9 = .ok (.if_icmp .ge 22, 3) := by decide +kernel
theorem d_X2_countOf_12 : decode i_X2_countOf.2.1 12 = .ok (.aload_n 0, 1) := by decide +kernel
theorem d_X2_countOf_13 : decode i_X2_countOf.2.1 13 = .ok (.getfield 15, 3) := by decide +kernel
theorem d_X2_countOf_16 : decode i_X2_countOf.2.1 16 = .ok (.iload_n 3, 1) := by decide +kernel
theorem d_X2_countOf_17 : decode i_X2_countOf.2.1 17 = .ok (.baload, 1) := by decide +kernel
theorem d_X2_countOf_18 : decode i_X2_countOf.2.1 18 = .ok (.iload_n 1, 1) := by decide +kernel
theorem d_X2_countOf_19 : decode i_X2_countOf.2.1 19 = .ok (.if_icmp .ne 6, 3) := by decide +kernel
theorem d_X2_countOf_22 : decode i_X2_countOf.2.1 22 = .ok (.iinc 2 1, 3) := by decide +kernel
theorem d_X2_countOf_25 : decode i_X2_countOf.2.1 25 = .ok (.iinc 3 1, 3) := by decide +kernel
theorem d_X2_countOf_28 : decode i_X2_countOf.2.1 28 = .ok (.goto (-24), 3) := by decide +kernel
theorem d_X2_countOf_31 : decode i_X2_countOf.2.1 31 = .ok (.iload_n 2, 1) := by decide +kernel
theorem d_X2_countOf_32 : decode i_X2_countOf.2.1 32 = .ok (.ireturn, 1) := by decide +kernel
def BLp_X2_countOf_4 (x0 : Nat) (x1 : Int) (P4 : Int → Int → Hp → Prop) (x2 : Int) (x3 : Int) (h : Hp) (Q : Int → Hp → Prop) : Prop :=
  hK h x0 = 2 ∧ ((hI h x0 1 ≤ x3 → (Q x2 h)) ∧ (¬ hI h x0 1 ≤ x3 → (hK h x0 = 2 ∧ ((hK h (hR h x0 0) = 13 ∧ (0 : Int) ≤ x3 ∧ x3 < hL h (hR h x0 0)) ∧ ((hI h (hR h x0 0) x3 ≠ x1 → (((-2147483648 : Int) ≤ x3 + 1 ∧ x3 + 1 ≤ (2147483647 : Int)) ∧ (P4 x2 (x3 + 1) h))) ∧ (hI h (hR h x0 0) x3 = x1 → (((-2147483648 : Int) ≤ x2 + 1 ∧ x2 + 1 ≤ (2147483647 : Int)) ∧ (((-2147483648 : Int) ≤ x3 + 1 ∧ x3 + 1 ≤ (2147483647 : Int)) ∧ (P4 (x2 + 1) (x3 + 1) h)))))))))
def Lp_X2_countOf_4 (x0 : Nat) (x1 : Int) (x2 : Int) (x3 : Int) (h : Hp) (Q : Int → Hp → Prop) : Prop := ∀ P4 : Int → Int → Hp → Prop, (∀ (x2 : Int) (x3 : Int) (h : Hp), BLp_X2_countOf_4 x0 x1 P4 x2 x3 h Q → P4 x2 x3 h) → P4 x2 x3 h
theorem Lp_X2_countOf_4_ind {x0 : Nat} {x1 : Int} {Q : Int → Hp → Prop} (I : Int → Int → Hp → Prop) (μ : Int → Int → Hp → Nat) (hs : ∀ (P4 : Int → Int → Hp → Prop) (x2 : Int) (x3 : Int) (h : Hp), I x2 x3 h → (∀ (x2' : Int) (x3' : Int) (h' : Hp), I x2' x3' h' → μ x2' x3' h' < μ x2 x3 h → P4 x2' x3' h') → BLp_X2_countOf_4 x0 x1 P4 x2 x3 h Q) : ∀ (x2 : Int) (x3 : Int) (h : Hp), I x2 x3 h → Lp_X2_countOf_4 x0 x1 x2 x3 h Q := by
  intro x2 x3 h hI P4 hP
  have key : ∀ (n : Nat) (x2 : Int) (x3 : Int) (h : Hp), I x2 x3 h → μ x2 x3 h < n → P4 x2 x3 h := by
    intro n
    induction n with
    | zero => intro x2 x3 h _ hl; exact absurd hl (Nat.not_lt_zero _)
    | succ n ih => intro x2 x3 h hi hl; exact hP x2 x3 h (hs P4 x2 x3 h hi (fun x2 x3 h' hi' hl' => ih x2 x3 h' hi' (by omega)))
  exact key _ x2 x3 h hI (Nat.lt_succ_self _)
theorem GLp_X2_countOf_4 (x0 : Nat) (x1 : Int) (x2 : Int) (x3 : Int) (h : Hp) (Q : Int → Hp → Prop) (hV : Lp_X2_countOf_4 x0 x1 x2 x3 h Q) : Go i_X2_countOf 4 [(0, .inr (.inr x0)), (1, .inl x1), (2, .inl x2), (3, .inl x3)] [] h (qI Q) := by
  refine hV (fun x2 x3 h => Go i_X2_countOf 4 [(0, .inr (.inr x0)), (1, .inl x1), (2, .inl x2), (3, .inl x3)] [] h (qI Q)) (fun x2 x3 h hV => ?_)
  unfold BLp_X2_countOf_4 at hV
  have hP4 : ∀ (x2 : Int) (x3 : Int) (h : Hp), Go i_X2_countOf 4 [(0, .inr (.inr x0)), (1, .inl x1), (2, .inl x2), (3, .inl x3)] [] h (qI Q) → Go i_X2_countOf 4 [(0, .inr (.inr x0)), (1, .inl x1), (2, .inl x2), (3, .inl x3)] [] h (qI Q) := fun _ _ h z => z
  refine s_iload_n d_X2_countOf_4 rfl (ma 3 rfl) ?_
  refine s_aload_n d_X2_countOf_5 rfl (ma 0 rfl) ?_
  obtain ⟨o, hV⟩ := hV
  refine f_RX2_21g rfl d_X2_countOf_6 o ?_
  refine s_icmp_ge (tgt := 31) d_X2_countOf_9 (by decide) (fun c => ?_) (fun c => ?_)
  · have hV := hV.1 c
    refine s_iload_n d_X2_countOf_31 rfl (ma 2 rfl) ?_
    exact s_iret d_X2_countOf_32 rfl rfl ⟨_, rfl, hV⟩
  · have hV := hV.2 c
    refine s_aload_n d_X2_countOf_12 rfl (ma 0 rfl) ?_
    obtain ⟨o, hV⟩ := hV
    refine f_RX2_15g rfl d_X2_countOf_13 o ?_
    refine s_iload_n d_X2_countOf_16 rfl (ma 3 rfl) ?_
    obtain ⟨o, hV⟩ := hV
    refine s_bald d_X2_countOf_17 o.1 o.2.1 o.2.2 ?_
    refine s_iload_n d_X2_countOf_18 rfl (ma 1 rfl) ?_
    refine s_icmp_ne (tgt := 25) d_X2_countOf_19 (by decide) (fun c => ?_) (fun c => ?_)
    · have hV := hV.1 c
      obtain ⟨o, hV⟩ := hV
      refine s_iinc (lv' := [(3, .inl (x3 + 1)), (0, .inr (.inr x0)), (1, .inl x1), (2, .inl x2)]) d_X2_countOf_25 (ma 3 rfl) o (Nat.le_of_ble_eq_true rfl) rfl ?_
      refine s_goto (tgt := 4) d_X2_countOf_28 (by decide) ?_
      refine s_pick (lv' := [(0, .inr (.inr x0)), (1, .inl x1), (2, .inl x2), (3, .inl (x3 + 1))]) [1, 2, 3, 0] rfl ?_
      exact hP4 _ _ _ hV
    · have hV := hV.2 c
      obtain ⟨o, hV⟩ := hV
      refine s_iinc (lv' := [(2, .inl (x2 + 1)), (0, .inr (.inr x0)), (1, .inl x1), (3, .inl x3)]) d_X2_countOf_22 (ma 2 rfl) o (Nat.le_of_ble_eq_true rfl) rfl ?_
      obtain ⟨o, hV⟩ := hV
      refine s_iinc (lv' := [(3, .inl (x3 + 1)), (2, .inl (x2 + 1)), (0, .inr (.inr x0)), (1, .inl x1)]) d_X2_countOf_25 (ma 3 rfl) o (Nat.le_of_ble_eq_true rfl) rfl ?_
      refine s_goto (tgt := 4) d_X2_countOf_28 (by decide) ?_
      refine s_pick (lv' := [(0, .inr (.inr x0)), (1, .inl x1), (2, .inl (x2 + 1)), (3, .inl (x3 + 1))]) [2, 3, 1, 0] rfl ?_
      exact hP4 _ _ _ hV
def V_X2_countOf (x0 : Nat) (x1 : Int) (h : Hp) (Q : Int → Hp → Prop) : Prop :=
  Lp_X2_countOf_4 x0 x1 0 0 h Q
theorem G_X2_countOf {x0 : Nat} {x1 : Int} (h : Hp) (Q : Int → Hp → Prop) (hV : V_X2_countOf x0 x1 h Q) : C_X2_countOf x0 x1 h Q := by
  unfold V_X2_countOf at hV
  show Go i_X2_countOf 0 [(0, .inr (.inr x0)), (1, .inl x1)] [] h (qI Q)
  refine s_iconst d_X2_countOf_0 (okn rfl) ?_
  refine s_istore_n (lv' := [(2, .inl 0), (0, .inr (.inr x0)), (1, .inl x1)]) d_X2_countOf_1 rfl (Nat.le_of_ble_eq_true rfl) rfl ?_
  refine s_iconst d_X2_countOf_2 (okn rfl) ?_
  refine s_istore_n (lv' := [(3, .inl 0), (2, .inl 0), (0, .inr (.inr x0)), (1, .inl x1)]) d_X2_countOf_3 rfl (Nat.le_of_ble_eq_true rfl) rfl ?_
  refine s_pick (lv' := [(0, .inr (.inr x0)), (1, .inl x1), (2, .inl 0), (3, .inl 0)]) [2, 3, 1, 0] rfl ?_
  exact GLp_X2_countOf_4 _ _ _ _ _ _ hV

theorem d_X2_has_0 : decode i_X2_has.2.1 0 = .ok (.iconst 0, 1) := by decide +kernel
theorem d_X2_has_1 : decode i_X2_has.2.1 1 = .ok (.istore_n 2, 1) := by decide +kernel
theorem d_X2_has_2 : decode i_X2_has.2.1 2 = .ok (.iload_n 2, 1) := by decide +kernel
theorem d_X2_has_3 : decode i_X2_has.2.1 3 = .ok (.aload_n 0, 1) := by decide +kernel
theorem d_X2_has_4 : decode i_X2_has.2.1 4 = .ok (.getfield 21, 3) := by decide +kernel
theorem d_X2_has_7 : decode i_X2_has.2.1 7 = .ok (.if_icmp .ge 21, 3) := by decide +kernel
theorem d_X2_has_10 : decode i_X2_has.2.1 10 = .ok (.aload_n 0, 1) := by decide +kernel
theorem d_X2_has_11 : decode i_X2_has.2.1 11 = .ok (.getfield 15, 3) := by decide +kernel
theorem d_X2_has_14 : decode i_X2_has.2.1 14 = .ok (.iload_n 2, 1) := by decide +kernel
theorem d_X2_has_15 : decode i_X2_has.2.1 15 = .ok (.baload, 1) := by decide +kernel
theorem d_X2_has_16 : decode i_X2_has.2.1 16 = .ok (.iload_n 1, 1) := by decide +kernel
theorem d_X2_has_17 : decode i_X2_has.2.1 17 = .ok (.if_icmp .ne 5, 3) := by decide +kernel
theorem d_X2_has_20 : decode i_X2_has.2.1 20 = .ok (.iconst 1, 1) := by decide +kernel
theorem d_X2_has_21 : decode i_X2_has.2.1 21 = .ok (.ireturn, 1) := by decide +kernel
theorem d_X2_has_22 : decode i_X2_has.2.1 22 = .ok (.iinc 2 1, 3) := by decide +kernel
theorem d_X2_has_25 : decode i_X2_has.2.1 25 = .ok (.goto (-23), 3) := by decide +kernel
theorem d_X2_has_28 : decode i_X2_has.2.1 28 = .ok (.iconst 0, 1) := by decide +kernel
theorem d_X2_has_29 : decode i_X2_has.2.1 29 = .ok (.ireturn, 1) := by decide +kernel
def BLp_X2_has_2 (x0 : Nat) (x1 : Int) (P2 : Int → Hp → Prop) (x2 : Int) (h : Hp) (Q : Int → Hp → Prop) : Prop :=
  hK h x0 = 2 ∧ ((hI h x0 1 ≤ x2 → (Q 0 h)) ∧ (¬ hI h x0 1 ≤ x2 → (hK h x0 = 2 ∧ ((hK h (hR h x0 0) = 13 ∧ (0 : Int) ≤ x2 ∧ x2 < hL h (hR h x0 0)) ∧ ((hI h (hR h x0 0) x2 ≠ x1 → (((-2147483648 : Int) ≤ x2 + 1 ∧ x2 + 1 ≤ (2147483647 : Int)) ∧ (P2 (x2 + 1) h))) ∧ (hI h (hR h x0 0) x2 = x1 → (Q 1 h)))))))
def Lp_X2_has_2 (x0 : Nat) (x1 : Int) (x2 : Int) (h : Hp) (Q : Int → Hp → Prop) : Prop := ∀ P2 : Int → Hp → Prop, (∀ (x2 : Int) (h : Hp), BLp_X2_has_2 x0 x1 P2 x2 h Q → P2 x2 h) → P2 x2 h
theorem Lp_X2_has_2_ind {x0 : Nat} {x1 : Int} {Q : Int → Hp → Prop} (I : Int → Hp → Prop) (μ : Int → Hp → Nat) (hs : ∀ (P2 : Int → Hp → Prop) (x2 : Int) (h : Hp), I x2 h → (∀ (x2' : Int) (h' : Hp), I x2' h' → μ x2' h' < μ x2 h → P2 x2' h') → BLp_X2_has_2 x0 x1 P2 x2 h Q) : ∀ (x2 : Int) (h : Hp), I x2 h → Lp_X2_has_2 x0 x1 x2 h Q := by
  intro x2 h hI P2 hP
  have key : ∀ (n : Nat) (x2 : Int) (h : Hp), I x2 h → μ x2 h < n → P2 x2 h := by
    intro n
    induction n with
    | zero => intro x2 h _ hl; exact absurd hl (Nat.not_lt_zero _)
    | succ n ih => intro x2 h hi hl; exact hP x2 h (hs P2 x2 h hi (fun x2 h' hi' hl' => ih x2 h' hi' (by omega)))
  exact key _ x2 h hI (Nat.lt_succ_self _)
theorem GLp_X2_has_2 (x0 : Nat) (x1 : Int) (x2 : Int) (h : Hp) (Q : Int → Hp → Prop) (hV : Lp_X2_has_2 x0 x1 x2 h Q) : Go i_X2_has 2 [(0, .inr (.inr x0)), (1, .inl x1), (2, .inl x2)] [] h (qI Q) := by
  refine hV (fun x2 h => Go i_X2_has 2 [(0, .inr (.inr x0)), (1, .inl x1), (2, .inl x2)] [] h (qI Q)) (fun x2 h hV => ?_)
  unfold BLp_X2_has_2 at hV
  have hP2 : ∀ (x2 : Int) (h : Hp), Go i_X2_has 2 [(0, .inr (.inr x0)), (1, .inl x1), (2, .inl x2)] [] h (qI Q) → Go i_X2_has 2 [(0, .inr (.inr x0)), (1, .inl x1), (2, .inl x2)] [] h (qI Q) := fun _ h z => z
  refine s_iload_n d_X2_has_2 rfl (ma 2 rfl) ?_
  refine s_aload_n d_X2_has_3 rfl (ma 0 rfl) ?_
  obtain ⟨o, hV⟩ := hV
  refine f_RX2_21g rfl d_X2_has_4 o ?_
  refine s_icmp_ge (tgt := 28) d_X2_has_7 (by decide) (fun c => ?_) (fun c => ?_)
  · have hV := hV.1 c
    refine s_iconst d_X2_has_28 (okn rfl) ?_
    exact s_iret d_X2_has_29 rfl (nar_z (Or.inl rfl)) ⟨_, rfl, hV⟩
  · have hV := hV.2 c
    refine s_aload_n d_X2_has_10 rfl (ma 0 rfl) ?_
    obtain ⟨o, hV⟩ := hV
    refine f_RX2_15g rfl d_X2_has_11 o ?_
    refine s_iload_n d_X2_has_14 rfl (ma 2 rfl) ?_
    obtain ⟨o, hV⟩ := hV
    refine s_bald d_X2_has_15 o.1 o.2.1 o.2.2 ?_
    refine s_iload_n d_X2_has_16 rfl (ma 1 rfl) ?_
    refine s_icmp_ne (tgt := 22) d_X2_has_17 (by decide) (fun c => ?_) (fun c => ?_)
    · have hV := hV.1 c
      obtain ⟨o, hV⟩ := hV
      refine s_iinc (lv' := [(2, .inl (x2 + 1)), (0, .inr (.inr x0)), (1, .inl x1)]) d_X2_has_22 (ma 2 rfl) o (Nat.le_of_ble_eq_true rfl) rfl ?_
      refine s_goto (tgt := 2) d_X2_has_25 (by decide) ?_
      refine s_pick (lv' := [(0, .inr (.inr x0)), (1, .inl x1), (2, .inl (x2 + 1))]) [1, 2, 0] rfl ?_
      exact hP2 _ _ hV
    · have hV := hV.2 c
      refine s_iconst d_X2_has_20 (okn rfl) ?_
      exact s_iret d_X2_has_21 rfl (nar_z (Or.inr rfl)) ⟨_, rfl, hV⟩
def V_X2_has (x0 : Nat) (x1 : Int) (h : Hp) (Q : Int → Hp → Prop) : Prop :=
  Lp_X2_has_2 x0 x1 0 h Q
theorem G_X2_has {x0 : Nat} {x1 : Int} (h : Hp) (Q : Int → Hp → Prop) (hV : V_X2_has x0 x1 h Q) : C_X2_has x0 x1 h Q := by
  unfold V_X2_has at hV
  show Go i_X2_has 0 [(0, .inr (.inr x0)), (1, .inl x1)] [] h (qI Q)
  refine s_iconst d_X2_has_0 (okn rfl) ?_
  refine s_istore_n (lv' := [(2, .inl 0), (0, .inr (.inr x0)), (1, .inl x1)]) d_X2_has_1 rfl (Nat.le_of_ble_eq_true rfl) rfl ?_
  refine s_pick (lv' := [(0, .inr (.inr x0)), (1, .inl x1), (2, .inl 0)]) [1, 2, 0] rfl ?_
  exact GLp_X2_has_2 _ _ _ _ _ hV

theorem d_X2_unlike_0 : decode i_X2_unlike.2.1 0 = .ok (.iconst 0, 1) := by decide +kernel
theorem d_X2_unlike_1 : decode i_X2_unlike.2.1 1 = .ok (.istore_n 1, 1) := by decide +kernel
theorem d_X2_unlike_2 : decode i_X2_unlike.2.1 2 = .ok (.iconst 0, 1) := by decide +kernel
theorem d_X2_unlike_3 : decode i_X2_unlike.2.1 3 = .ok (.istore_n 2, 1) := by decide +kernel
theorem d_X2_unlike_4 : decode i_X2_unlike.2.1 4 = .ok (.iload_n 2, 1) := by decide +kernel
theorem d_X2_unlike_5 : decode i_X2_unlike.2.1 5 = .ok (.bipush 10, 2) := by decide +kernel
theorem d_X2_unlike_7 : decode i_X2_unlike.2.1 7 = .ok (.if_icmp .ge 20, 3) := by decide +kernel
theorem d_X2_unlike_10 : decode i_X2_unlike.2.1 10 = .ok (.aload_n 0, 1) := by decide +kernel
theorem d_X2_unlike_11 : decode i_X2_unlike.2.1 11 = .ok (.iload_n 2, 1) := by decide +kernel
theorem d_X2_unlike_12 : decode i_X2_unlike.2.1 12 = .ok (.invokevirtual 46, 3) := by decide +kernel
theorem d_X2_unlike_15 : decode i_X2_unlike.2.1 15 = .ok (.ifCond .eq 6, 3) := by decide +kernel
theorem d_X2_unlike_18 : decode i_X2_unlike.2.1 18 = .ok (.iinc 1 1, 3) := by decide +kernel
theorem d_X2_unlike_21 : decode i_X2_unlike.2.1 21 = .ok (.iinc 2 1, 3) := by decide +kernel
theorem d_X2_unlike_24 : decode i_X2_unlike.2.1 24 = .ok (.goto (-20), 3) := by decide +kernel
theorem d_X2_unlike_27 : decode i_X2_unlike.2.1 27 = .ok (.iload_n 1, 1) := by decide +kernel
theorem d_X2_unlike_28 : decode i_X2_unlike.2.1 28 = .ok (.ireturn, 1) := by decide +kernel
def BLp_X2_unlike_4 (x0 : Nat) (P4 : Int → Int → Hp → Prop) (x1 : Int) (x2 : Int) (h : Hp) (Q : Int → Hp → Prop) : Prop :=
  (10 ≤ x2 → (Q x1 h)) ∧ (¬ 10 ≤ x2 → (hK h x0 = 2 ∧ C_X2_has x0 x2 h (fun r2 h1 => ((r2 = 0 → (((-2147483648 : Int) ≤ x2 + 1 ∧ x2 + 1 ≤ (2147483647 : Int)) ∧ (P4 x1 (x2 + 1) h1))) ∧ (¬ r2 = 0 → (((-2147483648 : Int) ≤ x1 + 1 ∧ x1 + 1 ≤ (2147483647 : Int)) ∧ (((-2147483648 : Int) ≤ x2 + 1 ∧ x2 + 1 ≤ (2147483647 : Int)) ∧ (P4 (x1 + 1) (x2 + 1) h1))))))))
def Lp_X2_unlike_4 (x0 : Nat) (x1 : Int) (x2 : Int) (h : Hp) (Q : Int → Hp → Prop) : Prop := ∀ P4 : Int → Int → Hp → Prop, (∀ (x1 : Int) (x2 : Int) (h : Hp), BLp_X2_unlike_4 x0 P4 x1 x2 h Q → P4 x1 x2 h) → P4 x1 x2 h
theorem Lp_X2_unlike_4_ind {x0 : Nat} {Q : Int → Hp → Prop} (I : Int → Int → Hp → Prop) (μ : Int → Int → Hp → Nat) (hs : ∀ (P4 : Int → Int → Hp → Prop) (x1 : Int) (x2 : Int) (h : Hp), I x1 x2 h → (∀ (x1' : Int) (x2' : Int) (h' : Hp), I x1' x2' h' → μ x1' x2' h' < μ x1 x2 h → P4 x1' x2' h') → BLp_X2_unlike_4 x0 P4 x1 x2 h Q) : ∀ (x1 : Int) (x2 : Int) (h : Hp), I x1 x2 h → Lp_X2_unlike_4 x0 x1 x2 h Q := by
  intro x1 x2 h hI P4 hP
  have key : ∀ (n : Nat) (x1 : Int) (x2 : Int) (h : Hp), I x1 x2 h → μ x1 x2 h < n → P4 x1 x2 h := by
    intro n
    induction n with
    | zero => intro x1 x2 h _ hl; exact absurd hl (Nat.not_lt_zero _)
    | succ n ih => intro x1 x2 h hi hl; exact hP x1 x2 h (hs P4 x1 x2 h hi (fun x1 x2 h' hi' hl' => ih x1 x2 h' hi' (by omega)))
  exact key _ x1 x2 h hI (Nat.lt_succ_self _)
theorem GLp_X2_unlike_4 (x0 : Nat) (x1 : Int) (x2 : Int) (h : Hp) (Q : Int → Hp → Prop) (hV : Lp_X2_unlike_4 x0 x1 x2 h Q) : Go i_X2_unlike 4 [(0, .inr (.inr x0)), (1, .inl x1), (2, .inl x2)] [] h (qI Q) := by
  refine hV (fun x1 x2 h => Go i_X2_unlike 4 [(0, .inr (.inr x0)), (1, .inl x1), (2, .inl x2)] [] h (qI Q)) (fun x1 x2 h hV => ?_)
  unfold BLp_X2_unlike_4 at hV
  have hP4 : ∀ (x1 : Int) (x2 : Int) (h : Hp), Go i_X2_unlike 4 [(0, .inr (.inr x0)), (1, .inl x1), (2, .inl x2)] [] h (qI Q) → Go i_X2_unlike 4 [(0, .inr (.inr x0)), (1, .inl x1), (2, .inl x2)] [] h (qI Q) := fun _ _ h z => z
  refine s_iload_n d_X2_unlike_4 rfl (ma 2 rfl) ?_
  refine s_bipush d_X2_unlike_5 (by decide) (okn rfl) ?_
  refine s_icmp_ge (tgt := 27) d_X2_unlike_7 (by decide) (fun c => ?_) (fun c => ?_)
  · have hV := hV.1 c
    refine s_iload_n d_X2_unlike_27 rfl (ma 1 rfl) ?_
    exact s_iret d_X2_unlike_28 rfl rfl ⟨_, rfl, hV⟩
  · have hV := hV.2 c
    refine s_aload_n d_X2_unlike_10 rfl (ma 0 rfl) ?_
    refine s_iload_n d_X2_unlike_11 rfl (ma 2 rfl) ?_
    obtain ⟨o, hV⟩ := hV
    refine v_RX2_46 rfl (Nat.le_of_ble_eq_true rfl) d_X2_unlike_12 o (Nat.le_of_ble_eq_true rfl) hV (fun r2 h1 hV => ?_)
    refine s_if_eq (tgt := 21) d_X2_unlike_15 (by decide) (fun c => ?_) (fun c => ?_)
    · have hV := hV.1 c
      obtain ⟨o, hV⟩ := hV
      refine s_iinc (lv' := [(2, .inl (x2 + 1)), (0, .inr (.inr x0)), (1, .inl x1)]) d_X2_unlike_21 (ma 2 rfl) o (Nat.le_of_ble_eq_true rfl) rfl ?_
      refine s_goto (tgt := 4) d_X2_unlike_24 (by decide) ?_
      refine s_pick (lv' := [(0, .inr (.inr x0)), (1, .inl x1), (2, .inl (x2 + 1))]) [1, 2, 0] rfl ?_
      exact hP4 _ _ _ hV
    · have hV := hV.2 c
      obtain ⟨o, hV⟩ := hV
      refine s_iinc (lv' := [(1, .inl (x1 + 1)), (0, .inr (.inr x0)), (2, .inl x2)]) d_X2_unlike_18 (ma 1 rfl) o (Nat.le_of_ble_eq_true rfl) rfl ?_
      obtain ⟨o, hV⟩ := hV
      refine s_iinc (lv' := [(2, .inl (x2 + 1)), (1, .inl (x1 + 1)), (0, .inr (.inr x0))]) d_X2_unlike_21 (ma 2 rfl) o (Nat.le_of_ble_eq_true rfl) rfl ?_
      refine s_goto (tgt := 4) d_X2_unlike_24 (by decide) ?_
      refine s_pick (lv' := [(0, .inr (.inr x0)), (1, .inl (x1 + 1)), (2, .inl (x2 + 1))]) [2, 1, 0] rfl ?_
      exact hP4 _ _ _ hV
def V_X2_unlike (x0 : Nat) (h : Hp) (Q : Int → Hp → Prop) : Prop :=
  Lp_X2_unlike_4 x0 0 0 h Q
theorem G_X2_unlike {x0 : Nat} (h : Hp) (Q : Int → Hp → Prop) (hV : V_X2_unlike x0 h Q) : C_X2_unlike x0 h Q := by
  unfold V_X2_unlike at hV
  show Go i_X2_unlike 0 [(0, .inr (.inr x0))] [] h (qI Q)
  refine s_iconst d_X2_unlike_0 (okn rfl) ?_
  refine s_istore_n (lv' := [(1, .inl 0), (0, .inr (.inr x0))]) d_X2_unlike_1 rfl (Nat.le_of_ble_eq_true rfl) rfl ?_
  refine s_iconst d_X2_unlike_2 (okn rfl) ?_
  refine s_istore_n (lv' := [(2, .inl 0), (1, .inl 0), (0, .inr (.inr x0))]) d_X2_unlike_3 rfl (Nat.le_of_ble_eq_true rfl) rfl ?_
  refine s_pick (lv' := [(0, .inr (.inr x0)), (1, .inl 0), (2, .inl 0)]) [2, 1, 0] rfl ?_
  exact GLp_X2_unlike_4 _ _ _ _ _ hV

theorem d_X2_runs_0 : decode i_X2_runs.2.1 0 = .ok (.iconst 0, 1) := by decide +kernel
theorem d_X2_runs_1 : decode i_X2_runs.2.1 1 = .ok (.istore_n 1, 1) := by decide +kernel
theorem d_X2_runs_2 : decode i_X2_runs.2.1 2 = .ok (.iconst 0, 1) := by decide +kernel
theorem d_X2_runs_3 : decode i_X2_runs.2.1 3 = .ok (.istore_n 2, 1) := by decide +kernel
theorem d_X2_runs_4 : decode i_X2_runs.2.1 4 = .ok (.iload_n 2, 1) := by decide +kernel
theorem d_X2_runs_5 : decode i_X2_runs.2.1 5 = .ok (.aload_n 0, 1) := by decide +kernel
theorem d_X2_runs_6 : decode i_X2_runs.2.1 6 = .ok (.getfield 21, 3) := by decide +kernel
theorem d_X2_runs_9 : decode i_X2_runs.2.1 9 = .ok (.if_icmp .ge 27, 3) := by decide +kernel
theorem d_X2_runs_12 : decode i_X2_runs.2.1 12 = .ok (.aload_n 0, 1) := by decide +kernel
theorem d_X2_runs_13 : decode i_X2_runs.2.1 13 = .ok (.iload_n 2, 1) := by decide +kernel
theorem d_X2_runs_14 : decode i_X2_runs.2.1 14 = .ok (.invokevirtual 49, 3) := by decide +kernel
theorem d_X2_runs_17 : decode i_X2_runs.2.1 17 = .ok (.aload_n 0, 1) := by decide +kernel
theorem d_X2_runs_18 : decode i_X2_runs.2.1 18 = .ok (.iload_n 2, 1) := by decide +kernel
theorem d_X2_runs_19 : decode i_X2_runs.2.1 19 = .ok (.iconst 1, 1) := by decide +kernel
theorem d_X2_runs_20 : decode i_X2_runs.2.1 20 = .ok (.isub, 1) := by decide +kernel
theorem d_X2_runs_21 : decode i_X2_runs.2.1 21 = .ok (.invokevirtual 49, 3) := by decide +kernel
theorem d_X2_runs_24 : decode i_X2_runs.2.1 24 = .ok (.if_icmp .eq 6, 3) := by decide +kernel
theorem d_X2_runs_27 : decode i_X2_runs.2.1 27 = .ok (.iinc 1 1, 3) := by decide +kernel
theorem d_X2_runs_30 : decode i_X2_runs.2.1 30 = .ok (.iinc 2 1, 3) := by decide +kernel
theorem d_X2_runs_33 : decode i_X2_runs.2.1 33 = .ok (.goto (-29), 3) := by decide +kernel
theorem d_X2_runs_36 : decode i_X2_runs.2.1 36 = .ok (.iload_n 1, 1) := by decide +kernel
theorem d_X2_runs_37 : decode i_X2_runs.2.1 37 = .ok (.ireturn, 1) := by decide +kernel
def BLp_X2_runs_4 (x0 : Nat) (P4 : Int → Int → Hp → Prop) (x1 : Int) (x2 : Int) (h : Hp) (Q : Int → Hp → Prop) : Prop :=
  hK h x0 = 2 ∧ ((hI h x0 1 ≤ x2 → (Q x1 h)) ∧ (¬ hI h x0 1 ≤ x2 → (hK h x0 = 2 ∧ C_X2_get x0 x2 h (fun r2 h1 => (((-2147483648 : Int) ≤ x2 - 1 ∧ x2 - 1 ≤ (2147483647 : Int)) ∧ (hK h1 x0 = 2 ∧ C_X2_get x0 (x2 - 1) h1 (fun r4 h3 => ((r2 = r4 → (((-2147483648 : Int) ≤ x2 + 1 ∧ x2 + 1 ≤ (2147483647 : Int)) ∧ (P4 x1 (x2 + 1) h3))) ∧ (¬ r2 = r4 → (((-2147483648 : Int) ≤ x1 + 1 ∧ x1 + 1 ≤ (2147483647 : Int)) ∧ (((-2147483648 : Int) ≤ x2 + 1 ∧ x2 + 1 ≤ (2147483647 : Int)) ∧ (P4 (x1 + 1) (x2 + 1) h3))))))))))))
def Lp_X2_runs_4 (x0 : Nat) (x1 : Int) (x2 : Int) (h : Hp) (Q : Int → Hp → Prop) : Prop := ∀ P4 : Int → Int → Hp → Prop, (∀ (x1 : Int) (x2 : Int) (h : Hp), BLp_X2_runs_4 x0 P4 x1 x2 h Q → P4 x1 x2 h) → P4 x1 x2 h
theorem Lp_X2_runs_4_ind {x0 : Nat} {Q : Int → Hp → Prop} (I : Int → Int → Hp → Prop) (μ : Int → Int → Hp → Nat) (hs : ∀ (P4 : Int → Int → Hp → Prop) (x1 : Int) (x2 : Int) (h : Hp), I x1 x2 h → (∀ (x1' : Int) (x2' : Int) (h' : Hp), I x1' x2' h' → μ x1' x2' h' < μ x1 x2 h → P4 x1' x2' h') → BLp_X2_runs_4 x0 P4 x1 x2 h Q) : ∀ (x1 : Int) (x2 : Int) (h : Hp), I x1 x2 h → Lp_X2_runs_4 x0 x1 x2 h Q := by
  intro x1 x2 h hI P4 hP
  have key : ∀ (n : Nat) (x1 : Int) (x2 : Int) (h : Hp), I x1 x2 h → μ x1 x2 h < n → P4 x1 x2 h := by
    intro n
    induction n with
    | zero => intro x1 x2 h _ hl; exact absurd hl (Nat.not_lt_zero _)
    | succ n ih => intro x1 x2 h hi hl; exact hP x1 x2 h (hs P4 x1 x2 h hi (fun x1 x2 h' hi' hl' => ih x1 x2 h' hi' (by omega)))
  exact key _ x1 x2 h hI (Nat.lt_succ_self _)
theorem GLp_X2_runs_4 (x0 : Nat) (x1 : Int) (x2 : Int) (h : Hp) (Q : Int → Hp → Prop) (hV : Lp_X2_runs_4 x0 x1 x2 h Q) : Go i_X2_runs 4 [(0, .inr (.inr x0)), (1, .inl x1), (2, .inl x2)] [] h (qI Q) := by
  refine hV (fun x1 x2 h => Go i_X2_runs 4 [(0, .inr (.inr x0)), (1, .inl x1), (2, .inl x2)] [] h (qI Q)) (fun x1 x2 h hV => ?_)
  unfold BLp_X2_runs_4 at hV
  have hP4 : ∀ (x1 : Int) (x2 : Int) (h : Hp), Go i_X2_runs 4 [(0, .inr (.inr x0)), (1, .inl x1), (2, .inl x2)] [] h (qI Q) → Go i_X2_runs 4 [(0, .inr (.inr x0)), (1, .inl x1), (2, .inl x2)] [] h (qI Q) := fun _ _ h z => z
  refine s_iload_n d_X2_runs_4 rfl (ma 2 rfl) ?_
  refine s_aload_n d_X2_runs_5 rfl (ma 0 rfl) ?_
  obtain ⟨o, hV⟩ := hV
  refine f_RX2_21g rfl d_X2_runs_6 o ?_
  refine s_icmp_ge (tgt := 36) d_X2_runs_9 (by decide) (fun c => ?_) (fun c => ?_)
  · have hV := hV.1 c
    refine s_iload_n d_X2_runs_36 rfl (ma 1 rfl) ?_
    exact s_iret d_X2_runs_37 rfl rfl ⟨_, rfl, hV⟩
  · have hV := hV.2 c
    refine s_aload_n d_X2_runs_12 rfl (ma 0 rfl) ?_
    refine s_iload_n d_X2_runs_13 rfl (ma 2 rfl) ?_
    obtain ⟨o, hV⟩ := hV
    refine v_RX2_49 rfl (Nat.le_of_ble_eq_true rfl) d_X2_runs_14 o (Nat.le_of_ble_eq_true rfl) hV (fun r2 h1 hV => ?_)
    refine s_aload_n d_X2_runs_17 rfl (ma 0 rfl) ?_
    refine s_iload_n d_X2_runs_18 rfl (ma 2 rfl) ?_
    refine s_iconst d_X2_runs_19 (okn rfl) ?_
    obtain ⟨o, hV⟩ := hV
    refine s_isub d_X2_runs_20 o ?_
    obtain ⟨o, hV⟩ := hV
    refine v_RX2_49 rfl (Nat.le_of_ble_eq_true rfl) d_X2_runs_21 o (Nat.le_of_ble_eq_true rfl) hV (fun r4 h3 hV => ?_)
    refine s_icmp_eq (tgt := 30) d_X2_runs_24 (by decide) (fun c => ?_) (fun c => ?_)
    · have hV := hV.1 c
      obtain ⟨o, hV⟩ := hV
      refine s_iinc (lv' := [(2, .inl (x2 + 1)), (0, .inr (.inr x0)), (1, .inl x1)]) d_X2_runs_30 (ma 2 rfl) o (Nat.le_of_ble_eq_true rfl) rfl ?_
      refine s_goto (tgt := 4) d_X2_runs_33 (by decide) ?_
      refine s_pick (lv' := [(0, .inr (.inr x0)), (1, .inl x1), (2, .inl (x2 + 1))]) [1, 2, 0] rfl ?_
      exact hP4 _ _ _ hV
    · have hV := hV.2 c
      obtain ⟨o, hV⟩ := hV
      refine s_iinc (lv' := [(1, .inl (x1 + 1)), (0, .inr (.inr x0)), (2, .inl x2)]) d_X2_runs_27 (ma 1 rfl) o (Nat.le_of_ble_eq_true rfl) rfl ?_
      obtain ⟨o, hV⟩ := hV
      refine s_iinc (lv' := [(2, .inl (x2 + 1)), (1, .inl (x1 + 1)), (0, .inr (.inr x0))]) d_X2_runs_30 (ma 2 rfl) o (Nat.le_of_ble_eq_true rfl) rfl ?_
      refine s_goto (tgt := 4) d_X2_runs_33 (by decide) ?_
      refine s_pick (lv' := [(0, .inr (.inr x0)), (1, .inl (x1 + 1)), (2, .inl (x2 + 1))]) [2, 1, 0] rfl ?_
      exact hP4 _ _ _ hV
def V_X2_runs (x0 : Nat) (h : Hp) (Q : Int → Hp → Prop) : Prop :=
  Lp_X2_runs_4 x0 0 0 h Q
theorem G_X2_runs {x0 : Nat} (h : Hp) (Q : Int → Hp → Prop) (hV : V_X2_runs x0 h Q) : C_X2_runs x0 h Q := by
  unfold V_X2_runs at hV
  show Go i_X2_runs 0 [(0, .inr (.inr x0))] [] h (qI Q)
  refine s_iconst d_X2_runs_0 (okn rfl) ?_
  refine s_istore_n (lv' := [(1, .inl 0), (0, .inr (.inr x0))]) d_X2_runs_1 rfl (Nat.le_of_ble_eq_true rfl) rfl ?_
  refine s_iconst d_X2_runs_2 (okn rfl) ?_
  refine s_istore_n (lv' := [(2, .inl 0), (1, .inl 0), (0, .inr (.inr x0))]) d_X2_runs_3 rfl (Nat.le_of_ble_eq_true rfl) rfl ?_
  refine s_pick (lv' := [(0, .inr (.inr x0)), (1, .inl 0), (2, .inl 0)]) [2, 1, 0] rfl ?_
  exact GLp_X2_runs_4 _ _ _ _ _ hV

theorem d_X2_runFrom_0 : decode i_X2_runFrom.2.1 0 = .ok (.iconst 0, 1) := by decide +kernel
theorem d_X2_runFrom_1 : decode i_X2_runFrom.2.1 1 = .ok (.istore_n 2, 1) := by decide +kernel
theorem d_X2_runFrom_2 : decode i_X2_runFrom.2.1 2 = .ok (.iload_n 1, 1) := by decide +kernel
theorem d_X2_runFrom_3 : decode i_X2_runFrom.2.1 3 = .ok (.istore_n 3, 1) := by decide +kernel
theorem d_X2_runFrom_4 : decode i_X2_runFrom.2.1 4 = .ok (.iload_n 3, 1) := by decide +kernel
theorem d_X2_runFrom_5 : decode i_X2_runFrom.2.1 5 = .ok (.aload_n 0, 1) := by decide +kernel
theorem d_X2_runFrom_6 : decode i_X2_runFrom.2.1 6 = .ok (.getfield 21, 3) := by decide +kernel
theorem d_X2_runFrom_9 : decode i_X2_runFrom.2.1 9 = .ok (.if_icmp .ge 25, 3) := by decide +kernel
theorem d_X2_runFrom_12 : decode i_X2_runFrom.2.1 12 = .ok (.aload_n 0, 1) := by decide +kernel
theorem d_X2_runFrom_13 : decode i_X2_runFrom.2.1 13 = .ok (.iload_n 3, 1) := by decide +kernel
theorem d_X2_runFrom_14 : decode i_X2_runFrom.2.1 14 = .ok (.invokevirtual 49, 3) := by decide +kernel
theorem d_X2_runFrom_17 : decode i_X2_runFrom.2.1 17 = .ok (.aload_n 0, 1) := by decide +kernel
theorem d_X2_runFrom_18 : decode i_X2_runFrom.2.1 18 = .ok (.iload_n 1, 1) := by decide +kernel
theorem d_X2_runFrom_19 : decode i_X2_runFrom.2.1 19 = .ok (.invokevirtual 49, 3) := by decide +kernel
theorem d_X2_runFrom_22 : decode i_X2_runFrom.2.1 22 = .ok (.if_icmp .ne 12, 3) := by decide +kernel
theorem d_X2_runFrom_25 : decode i_X2_runFrom.2.1 25 = .ok (.iinc 2 1, 3) := by decide +kernel
theorem d_X2_runFrom_28 : decode i_X2_runFrom.2.1 28 = .ok (.iinc 3 1, 3) := by decide +kernel
theorem d_X2_runFrom_31 : decode i_X2_runFrom.2.1 31 = .ok (.goto (-27), 3) := by decide +kernel
theorem d_X2_runFrom_34 : decode i_X2_runFrom.2.1 34 = .ok (.iload_n 2, 1) := by decide +kernel
theorem d_X2_runFrom_35 : decode i_X2_runFrom.2.1 35 = .ok (.ireturn, 1) := by decide +kernel
def BLp_X2_runFrom_4 (x0 : Nat) (x1 : Int) (P4 : Int → Int → Hp → Prop) (x2 : Int) (x3 : Int) (h : Hp) (Q : Int → Hp → Prop) : Prop :=
  hK h x0 = 2 ∧ ((hI h x0 1 ≤ x3 → (Q x2 h)) ∧ (¬ hI h x0 1 ≤ x3 → (hK h x0 = 2 ∧ C_X2_get x0 x3 h (fun r2 h1 => (hK h1 x0 = 2 ∧ C_X2_get x0 x1 h1 (fun r4 h3 => ((r2 ≠ r4 → (Q x2 h3)) ∧ (r2 = r4 → (((-2147483648 : Int) ≤ x2 + 1 ∧ x2 + 1 ≤ (2147483647 : Int)) ∧ (((-2147483648 : Int) ≤ x3 + 1 ∧ x3 + 1 ≤ (2147483647 : Int)) ∧ (P4 (x2 + 1) (x3 + 1) h3)))))))))))
def Lp_X2_runFrom_4 (x0 : Nat) (x1 : Int) (x2 : Int) (x3 : Int) (h : Hp) (Q : Int → Hp → Prop) : Prop := ∀ P4 : Int → Int → Hp → Prop, (∀ (x2 : Int) (x3 : Int) (h : Hp), BLp_X2_runFrom_4 x0 x1 P4 x2 x3 h Q → P4 x2 x3 h) → P4 x2 x3 h
theorem Lp_X2_runFrom_4_ind {x0 : Nat} {x1 : Int} {Q : Int → Hp → Prop} (I : Int → Int → Hp → Prop) (μ : Int → Int → Hp → Nat) (hs : ∀ (P4 : Int → Int → Hp → Prop) (x2 : Int) (x3 : Int) (h : Hp), I x2 x3 h → (∀ (x2' : Int) (x3' : Int) (h' : Hp), I x2' x3' h' → μ x2' x3' h' < μ x2 x3 h → P4 x2' x3' h') → BLp_X2_runFrom_4 x0 x1 P4 x2 x3 h Q) : ∀ (x2 : Int) (x3 : Int) (h : Hp), I x2 x3 h → Lp_X2_runFrom_4 x0 x1 x2 x3 h Q := by
  intro x2 x3 h hI P4 hP
  have key : ∀ (n : Nat) (x2 : Int) (x3 : Int) (h : Hp), I x2 x3 h → μ x2 x3 h < n → P4 x2 x3 h := by
    intro n
    induction n with
    | zero => intro x2 x3 h _ hl; exact absurd hl (Nat.not_lt_zero _)
    | succ n ih => intro x2 x3 h hi hl; exact hP x2 x3 h (hs P4 x2 x3 h hi (fun x2 x3 h' hi' hl' => ih x2 x3 h' hi' (by omega)))
  exact key _ x2 x3 h hI (Nat.lt_succ_self _)
theorem GLp_X2_runFrom_4 (x0 : Nat) (x1 : Int) (x2 : Int) (x3 : Int) (h : Hp) (Q : Int → Hp → Prop) (hV : Lp_X2_runFrom_4 x0 x1 x2 x3 h Q) : Go i_X2_runFrom 4 [(0, .inr (.inr x0)), (1, .inl x1), (2, .inl x2), (3, .inl x3)] [] h (qI Q) := by
  refine hV (fun x2 x3 h => Go i_X2_runFrom 4 [(0, .inr (.inr x0)), (1, .inl x1), (2, .inl x2), (3, .inl x3)] [] h (qI Q)) (fun x2 x3 h hV => ?_)
  unfold BLp_X2_runFrom_4 at hV
  have hP4 : ∀ (x2 : Int) (x3 : Int) (h : Hp), Go i_X2_runFrom 4 [(0, .inr (.inr x0)), (1, .inl x1), (2, .inl x2), (3, .inl x3)] [] h (qI Q) → Go i_X2_runFrom 4 [(0, .inr (.inr x0)), (1, .inl x1), (2, .inl x2), (3, .inl x3)] [] h (qI Q) := fun _ _ h z => z
  refine s_iload_n d_X2_runFrom_4 rfl (ma 3 rfl) ?_
  refine s_aload_n d_X2_runFrom_5 rfl (ma 0 rfl) ?_
  obtain ⟨o, hV⟩ := hV
  refine f_RX2_21g rfl d_X2_runFrom_6 o ?_
  refine s_icmp_ge (tgt := 34) d_X2_runFrom_9 (by decide) (fun c => ?_) (fun c => ?_)
  · have hV := hV.1 c
    refine s_iload_n d_X2_runFrom_34 rfl (ma 2 rfl) ?_
    exact s_iret d_X2_runFrom_35 rfl rfl ⟨_, rfl, hV⟩
  · have hV := hV.2 c
    refine s_aload_n d_X2_runFrom_12 rfl (ma 0 rfl) ?_
    refine s_iload_n d_X2_runFrom_13 rfl (ma 3 rfl) ?_
    obtain ⟨o, hV⟩ := hV
    refine v_RX2_49 rfl (Nat.le_of_ble_eq_true rfl) d_X2_runFrom_14 o (Nat.le_of_ble_eq_true rfl) hV (fun r2 h1 hV => ?_)
    refine s_aload_n d_X2_runFrom_17 rfl (ma 0 rfl) ?_
    refine s_iload_n d_X2_runFrom_18 rfl (ma 1 rfl) ?_
    obtain ⟨o, hV⟩ := hV
    refine v_RX2_49 rfl (Nat.le_of_ble_eq_true rfl) d_X2_runFrom_19 o (Nat.le_of_ble_eq_true rfl) hV (fun r4 h3 hV => ?_)
    refine s_icmp_ne (tgt := 34) d_X2_runFrom_22 (by decide) (fun c => ?_) (fun c => ?_)
    · have hV := hV.1 c
      refine s_iload_n d_X2_runFrom_34 rfl (ma 2 rfl) ?_
      exact s_iret d_X2_runFrom_35 rfl rfl ⟨_, rfl, hV⟩
    · have hV := hV.2 c
      obtain ⟨o, hV⟩ := hV
      refine s_iinc (lv' := [(2, .inl (x2 + 1)), (0, .inr (.inr x0)), (1, .inl x1), (3, .inl x3)]) d_X2_runFrom_25 (ma 2 rfl) o (Nat.le_of_ble_eq_true rfl) rfl ?_
      obtain ⟨o, hV⟩ := hV
      refine s_iinc (lv' := [(3, .inl (x3 + 1)), (2, .inl (x2 + 1)), (0, .inr (.inr x0)), (1, .inl x1)]) d_X2_runFrom_28 (ma 3 rfl) o (Nat.le_of_ble_eq_true rfl) rfl ?_
      refine s_goto (tgt := 4) d_X2_runFrom_31 (by decide) ?_
      refine s_pick (lv' := [(0, .inr (.inr x0)), (1, .inl x1), (2, .inl (x2 + 1)), (3, .inl (x3 + 1))]) [2, 3, 1, 0] rfl ?_
      exact hP4 _ _ _ hV
def V_X2_runFrom (x0 : Nat) (x1 : Int) (h : Hp) (Q : Int → Hp → Prop) : Prop :=
  Lp_X2_runFrom_4 x0 x1 0 x1 h Q
theorem G_X2_runFrom {x0 : Nat} {x1 : Int} (h : Hp) (Q : Int → Hp → Prop) (hV : V_X2_runFrom x0 x1 h Q) : C_X2_runFrom x0 x1 h Q := by
  unfold V_X2_runFrom at hV
  show Go i_X2_runFrom 0 [(0, .inr (.inr x0)), (1, .inl x1)] [] h (qI Q)
  refine s_iconst d_X2_runFrom_0 (okn rfl) ?_
  refine s_istore_n (lv' := [(2, .inl 0), (0, .inr (.inr x0)), (1, .inl x1)]) d_X2_runFrom_1 rfl (Nat.le_of_ble_eq_true rfl) rfl ?_
  refine s_iload_n d_X2_runFrom_2 rfl (ma 2 rfl) ?_
  refine s_istore_n (lv' := [(3, .inl x1), (2, .inl 0), (0, .inr (.inr x0)), (1, .inl x1)]) d_X2_runFrom_3 rfl (Nat.le_of_ble_eq_true rfl) rfl ?_
  refine s_pick (lv' := [(0, .inr (.inr x0)), (1, .inl x1), (2, .inl 0), (3, .inl x1)]) [2, 3, 1, 0] rfl ?_
  exact GLp_X2_runFrom_4 _ _ _ _ _ _ hV

theorem d_X2_longestRun_0 : decode i_X2_longestRun.2.1 0 = .ok (.aload_n 0, 1) := by decide +kernel
theorem d_X2_longestRun_1 : decode i_X2_longestRun.2.1 1 = .ok (.invokevirtual 53, 3) := by decide +kernel
theorem d_X2_longestRun_4 : decode i_X2_longestRun.2.1 4 = .ok (.istore_n 1, 1) := by decide +kernel
theorem d_X2_longestRun_5 : decode i_X2_longestRun.2.1 5 = .ok (.iload_n 1, 1) := by decide +kernel
theorem d_X2_longestRun_6 : decode i_X2_longestRun.2.1 6 = .ok (.iconst (-1), 1) := by decide +kernel
theorem d_X2_longestRun_7 : decode i_X2_longestRun.2.1 7 = .ok (.if_icmp .ne 7, 3) := by decide +kernel
theorem d_X2_longestRun_10 : decode i_X2_longestRun.2.1 10 = .ok (.iconst (-1), 1) := by decide +kernel
theorem d_X2_longestRun_11 : decode i_X2_longestRun.2.1 11 = .ok (.goto 8, 3) := by decide +kernel
theorem d_X2_longestRun_14 : decode i_X2_longestRun.2.1 14 = .ok (.aload_n 0, 1) := by decide +kernel
theorem d_X2_longestRun_15 : decode i_X2_longestRun.2.1 15 = .ok (.iload_n 1, 1) := by decide +kernel
theorem d_X2_longestRun_16 : decode i_X2_longestRun.2.1 16 = .ok (.invokevirtual 57, 3) := by decide +kernel
theorem d_X2_longestRun_19 : decode i_X2_longestRun.2.1 19 = .ok (.ireturn, 1) := by decide +kernel
def V_X2_longestRun (x0 : Nat) (h : Hp) (Q : Int → Hp → Prop) : Prop :=
  hK h x0 = 2 ∧ C_X2_longestRunStart x0  h (fun r2 h1 => ((r2 ≠ (-1) → (hK h1 x0 = 2 ∧ C_X2_runFrom x0 r2 h1 (fun r4 h3 => (Q r4 h3)))) ∧ (r2 = (-1) → (Q (-1) h1))))
theorem G_X2_longestRun {x0 : Nat} (h : Hp) (Q : Int → Hp → Prop) (hV : V_X2_longestRun x0 h Q) : C_X2_longestRun x0 h Q := by
  unfold V_X2_longestRun at hV
  show Go i_X2_longestRun 0 [(0, .inr (.inr x0))] [] h (qI Q)
  refine s_aload_n d_X2_longestRun_0 rfl (ma 0 rfl) ?_
  obtain ⟨o, hV⟩ := hV
  refine v_RX2_53 rfl (Nat.le_of_ble_eq_true rfl) d_X2_longestRun_1 o (Nat.le_of_ble_eq_true rfl) hV (fun r2 h1 hV => ?_)
  refine s_istore_n (lv' := [(1, .inl r2), (0, .inr (.inr x0))]) d_X2_longestRun_4 rfl (Nat.le_of_ble_eq_true rfl) rfl ?_
  refine s_iload_n d_X2_longestRun_5 rfl (ma 0 rfl) ?_
  refine s_iconst d_X2_longestRun_6 (okn rfl) ?_
  refine s_icmp_ne (tgt := 14) d_X2_longestRun_7 (by decide) (fun c => ?_) (fun c => ?_)
  · have hV := hV.1 c
    refine s_aload_n d_X2_longestRun_14 rfl (ma 1 rfl) ?_
    refine s_iload_n d_X2_longestRun_15 rfl (ma 0 rfl) ?_
    obtain ⟨o, hV⟩ := hV
    refine v_RX2_57 rfl (Nat.le_of_ble_eq_true rfl) d_X2_longestRun_16 o (Nat.le_of_ble_eq_true rfl) hV (fun r4 h3 hV => ?_)
    exact s_iret d_X2_longestRun_19 rfl rfl ⟨_, rfl, hV⟩
  · have hV := hV.2 c
    refine s_iconst d_X2_longestRun_10 (okn rfl) ?_
    refine s_goto (tgt := 19) d_X2_longestRun_11 (by decide) ?_
    exact s_iret d_X2_longestRun_19 rfl rfl ⟨_, rfl, hV⟩

theorem d_X2_longestRunStart_0 : decode i_X2_longestRunStart.2.1 0 = .ok (.iconst (-1), 1) := by decide +kernel
theorem d_X2_longestRunStart_1 : decode i_X2_longestRunStart.2.1 1 = .ok (.istore_n 1, 1) := by decide +kernel
theorem d_X2_longestRunStart_2 : decode i_X2_longestRunStart.2.1 2 = .ok (.iconst 0, 1) := by decide +kernel
theorem d_X2_longestRunStart_3 : decode i_X2_longestRunStart.2.1 3 = .ok (.istore_n 2, 1) := by decide +kernel
theorem d_X2_longestRunStart_4 : decode i_X2_longestRunStart.2.1 4 = .ok (.iconst 0, 1) := by decide +kernel
theorem d_X2_longestRunStart_5 : decode i_X2_longestRunStart.2.1 5 = .ok (.istore_n 3, 1) := by decide +kernel
theorem d_X2_longestRunStart_6 : decode i_X2_longestRunStart.2.1 6 = .ok (.iload_n 3, 1) := by decide +kernel
theorem d_X2_longestRunStart_7 : decode i_X2_longestRunStart.2.1 7 = .ok (.aload_n 0, 1) := by decide +kernel
theorem d_X2_longestRunStart_8 : decode i_X2_longestRunStart.2.1 8 = .ok (.getfield 21, 3) := by decide +kernel
theorem d_X2_longestRunStart_11 : decode i_X2_longestRunStart.2.1 11 = .ok (.if_icmp .ge 46, 3) := by decide +kernel
theorem d_X2_longestRunStart_14 : decode i_X2_longestRunStart.2.1 14 = .ok (.aload_n 0, 1) := by decide +kernel
theorem d_X2_longestRunStart_15 : decode i_X2_longestRunStart.2.1 15 = .ok (.iload_n 3, 1) := by decide +kernel
theorem d_X2_longestRunStart_16 : decode i_X2_longestRunStart.2.1 16 = .ok (.invokevirtual 49, 3) := by decide +kernel
theorem d_X2_longestRunStart_19 : decode i_X2_longestRunStart.2.1 19 = .ok (.aload_n 0, 1) := by decide +kernel
theorem d_X2_longestRunStart_20 : decode i_X2_longestRunStart.2.1 20 = .ok (.iload_n 3, 1) := by decide +kernel
theorem d_X2_longestRunStart_21 : decode i_X2_longestRunStart.2.1 21 = .ok (.iconst 1, 1) := by decide +kernel
theorem d_X2_longestRunStart_22 : decode i_X2_longestRunStart.2.1 22 = .ok (.isub, 1) := by decide +kernel
theorem d_X2_longestRunStart_23 : decode i_X2_longestRunStart.2.1 23 = .ok (.invokevirtual 49, 3) := by decide +kernel
theorem d_X2_longestRunStart_26 : decode i_X2_longestRunStart.2.1 26 = .ok (.if_icmp .eq 11, 3) := by decide +kernel
theorem d_X2_longestRunStart_29 : decode i_X2_longestRunStart.2.1 29 = .ok (.aload_n 0, 1) := by decide +kernel
theorem d_X2_longestRunStart_30 : decode i_X2_longestRunStart.2.1 30 = .ok (.iload_n 3, 1) := by decide +kernel
theorem d_X2_longestRunStart_31 : decode i_X2_longestRunStart.2.1 31 = .ok (.invokevirtual 57, 3) := by decide +kernel
theorem d_X2_longestRunStart_34 : decode i_X2_longestRunStart.2.1 34 = .ok (.goto 4, 3) := by decide +kernel
theorem d_X2_longestRunStart_37 : decode i_X2_longestRunStart.2.1 37 = .ok (.iconst 0, 1) := by decide +kernel
theorem d_X2_longestRunStart_38 : decode i_X2_longestRunStart.2.1 38 = .ok (.istore 4, 2) := by decide +kernel
theorem d_X2_longestRunStart_40 : decode i_X2_longestRunStart.2.1 40 = .ok (.iload 4, 2) := by decide +kernel
theorem d_X2_longestRunStart_42 : decode i_X2_longestRunStart.2.1 42 = .ok (.iload_n 2, 1) := by decide +kernel
theorem d_X2_longestRunStart_43 : decode i_X2_longestRunStart.2.1 43 = .ok (.if_icmp .le 8, 3) := by decide +kernel
theorem d_X2_longestRunStart_46 : decode i_X2_longestRunStart.2.1 46 = .ok (.iload 4, 2) := by decide +kernel
theorem d_X2_longestRunStart_48 : decode i_X2_longestRunStart.2.1 48 = .ok (.istore_n 2, 1) := by decide +kernel
theorem d_X2_longestRunStart_49 : decode i_X2_longestRunStart.2.1 49 = .ok (.iload_n 3, 1) := by decide +kernel
theorem d_X2_longestRunStart_50 : decode i_X2_longestRunStart.2.1 50 = .ok (.istore_n 1, 1) := by decide +kernel
theorem d_X2_longestRunStart_51 : decode i_X2_longestRunStart.2.1 51 = .ok (.iinc 3 1, 3) := by decide +kernel
theorem d_X2_longestRunStart_54 : decode i_X2_longestRunStart.2.1 54 = .ok (.goto (-48), 3) := by decide +kernel
theorem d_X2_longestRunStart_57 : decode i_X2_longestRunStart.2.1 57 = .ok (.iload_n 1, 1) := by decide +kernel
theorem d_X2_longestRunStart_58 : decode i_X2_longestRunStart.2.1 58 = .ok (.ireturn, 1) := by decide +kernel
def J_X2_longestRunStart_38 (P6 : Int → Int → Int → Hp → Prop) (x0 : Nat) (x1 : Int) (x2 : Int) (x3 : Int) (y0 : Int) (h : Hp) (Q : Int → Hp → Prop) : Prop :=
  (y0 ≤ x2 → (((-2147483648 : Int) ≤ x3 + 1 ∧ x3 + 1 ≤ (2147483647 : Int)) ∧ (P6 x1 x2 (x3 + 1) h))) ∧ (¬ y0 ≤ x2 → (((-2147483648 : Int) ≤ x3 + 1 ∧ x3 + 1 ≤ (2147483647 : Int)) ∧ (P6 x3 y0 (x3 + 1) h)))
theorem GJ_X2_longestRunStart_38 {P6 : Int → Int → Int → Hp → Prop} (x0 : Nat) (x1 : Int) (x2 : Int) (x3 : Int) (y0 : Int) (h : Hp) (Q : Int → Hp → Prop) (hP6 : ∀ (m1 : Int) (m2 : Int) (m3 : Int) (h : Hp), P6 m1 m2 m3 h → Go i_X2_longestRunStart 6 [(0, .inr (.inr x0)), (1, .inl m1), (2, .inl m2), (3, .inl m3)] [] h (qI Q)) (hV : J_X2_longestRunStart_38 P6 x0 x1 x2 x3 y0 h Q) : Go i_X2_longestRunStart 38 [(0, .inr (.inr x0)), (1, .inl x1), (2, .inl x2), (3, .inl x3)] [.inl y0] h (qI Q) := by
  unfold J_X2_longestRunStart_38 at hV
  refine s_istore (lv' := [(4, .inl y0), (0, .inr (.inr x0)), (1, .inl x1), (2, .inl x2), (3, .inl x3)]) d_X2_longestRunStart_38 (Nat.le_of_ble_eq_true rfl) rfl ?_
  refine s_iload d_X2_longestRunStart_40 (ma 0 rfl) ?_
  refine s_iload_n d_X2_longestRunStart_42 rfl (ma 3 rfl) ?_
  refine s_icmp_le (tgt := 51) d_X2_longestRunStart_43 (by decide) (fun c => ?_) (fun c => ?_)
  · have hV := hV.1 c
    obtain ⟨o, hV⟩ := hV
    refine s_iinc (lv' := [(3, .inl (x3 + 1)), (4, .inl y0), (0, .inr (.inr x0)), (1, .inl x1), (2, .inl x2)]) d_X2_longestRunStart_51 (ma 4 rfl) o (Nat.le_of_ble_eq_true rfl) rfl ?_
    refine s_goto (tgt := 6) d_X2_longestRunStart_54 (by decide) ?_
    refine s_pick (lv' := [(0, .inr (.inr x0)), (1, .inl x1), (2, .inl x2), (3, .inl (x3 + 1))]) [2, 3, 4, 0] rfl ?_
    exact hP6 _ _ _ _ hV
  · have hV := hV.2 c
    refine s_iload d_X2_longestRunStart_46 (ma 0 rfl) ?_
    refine s_istore_n (lv' := [(2, .inl y0), (4, .inl y0), (0, .inr (.inr x0)), (1, .inl x1), (3, .inl x3)]) d_X2_longestRunStart_48 rfl (Nat.le_of_ble_eq_true rfl) rfl ?_
    refine s_iload_n d_X2_longestRunStart_49 rfl (ma 4 rfl) ?_
    refine s_istore_n (lv' := [(1, .inl x3), (2, .inl y0), (4, .inl y0), (0, .inr (.inr x0)), (3, .inl x3)]) d_X2_longestRunStart_50 rfl (Nat.le_of_ble_eq_true rfl) rfl ?_
    obtain ⟨o, hV⟩ := hV
    refine s_iinc (lv' := [(3, .inl (x3 + 1)), (1, .inl x3), (2, .inl y0), (4, .inl y0), (0, .inr (.inr x0))]) d_X2_longestRunStart_51 (ma 4 rfl) o (Nat.le_of_ble_eq_true rfl) rfl ?_
    refine s_goto (tgt := 6) d_X2_longestRunStart_54 (by decide) ?_
    refine s_pick (lv' := [(0, .inr (.inr x0)), (1, .inl x3), (2, .inl y0), (3, .inl (x3 + 1))]) [4, 1, 2, 0] rfl ?_
    exact hP6 _ _ _ _ hV
def BLp_X2_longestRunStart_6 (x0 : Nat) (P6 : Int → Int → Int → Hp → Prop) (x1 : Int) (x2 : Int) (x3 : Int) (h : Hp) (Q : Int → Hp → Prop) : Prop :=
  hK h x0 = 2 ∧ ((hI h x0 1 ≤ x3 → (Q x1 h)) ∧ (¬ hI h x0 1 ≤ x3 → (hK h x0 = 2 ∧ C_X2_get x0 x3 h (fun r2 h1 => (((-2147483648 : Int) ≤ x3 - 1 ∧ x3 - 1 ≤ (2147483647 : Int)) ∧ (hK h1 x0 = 2 ∧ C_X2_get x0 (x3 - 1) h1 (fun r4 h3 => ((r2 = r4 → (J_X2_longestRunStart_38 P6 x0 x1 x2 x3 0 h3 Q)) ∧ (¬ r2 = r4 → (hK h3 x0 = 2 ∧ C_X2_runFrom x0 x3 h3 (fun r6 h5 => (J_X2_longestRunStart_38 P6 x0 x1 x2 x3 r6 h5 Q))))))))))))
def Lp_X2_longestRunStart_6 (x0 : Nat) (x1 : Int) (x2 : Int) (x3 : Int) (h : Hp) (Q : Int → Hp → Prop) : Prop := ∀ P6 : Int → Int → Int → Hp → Prop, (∀ (x1 : Int) (x2 : Int) (x3 : Int) (h : Hp), BLp_X2_longestRunStart_6 x0 P6 x1 x2 x3 h Q → P6 x1 x2 x3 h) → P6 x1 x2 x3 h
theorem Lp_X2_longestRunStart_6_ind {x0 : Nat} {Q : Int → Hp → Prop} (I : Int → Int → Int → Hp → Prop) (μ : Int → Int → Int → Hp → Nat) (hs : ∀ (P6 : Int → Int → Int → Hp → Prop) (x1 : Int) (x2 : Int) (x3 : Int) (h : Hp), I x1 x2 x3 h → (∀ (x1' : Int) (x2' : Int) (x3' : Int) (h' : Hp), I x1' x2' x3' h' → μ x1' x2' x3' h' < μ x1 x2 x3 h → P6 x1' x2' x3' h') → BLp_X2_longestRunStart_6 x0 P6 x1 x2 x3 h Q) : ∀ (x1 : Int) (x2 : Int) (x3 : Int) (h : Hp), I x1 x2 x3 h → Lp_X2_longestRunStart_6 x0 x1 x2 x3 h Q := by
  intro x1 x2 x3 h hI P6 hP
  have key : ∀ (n : Nat) (x1 : Int) (x2 : Int) (x3 : Int) (h : Hp), I x1 x2 x3 h → μ x1 x2 x3 h < n → P6 x1 x2 x3 h := by
    intro n
    induction n with
    | zero => intro x1 x2 x3 h _ hl; exact absurd hl (Nat.not_lt_zero _)
    | succ n ih => intro x1 x2 x3 h hi hl; exact hP x1 x2 x3 h (hs P6 x1 x2 x3 h hi (fun x1 x2 x3 h' hi' hl' => ih x1 x2 x3 h' hi' (by omega)))
  exact key _ x1 x2 x3 h hI (Nat.lt_succ_self _)
theorem GLp_X2_longestRunStart_6 (x0 : Nat) (x1 : Int) (x2 : Int) (x3 : Int) (h : Hp) (Q : Int → Hp → Prop) (hV : Lp_X2_longestRunStart_6 x0 x1 x2 x3 h Q) : Go i_X2_longestRunStart 6 [(0, .inr (.inr x0)), (1, .inl x1), (2, .inl x2), (3, .inl x3)] [] h (qI Q) := by
  refine hV (fun x1 x2 x3 h => Go i_X2_longestRunStart 6 [(0, .inr (.inr x0)), (1, .inl x1), (2, .inl x2), (3, .inl x3)] [] h (qI Q)) (fun x1 x2 x3 h hV => ?_)
  unfold BLp_X2_longestRunStart_6 at hV
  have hP6 : ∀ (x1 : Int) (x2 : Int) (x3 : Int) (h : Hp), Go i_X2_longestRunStart 6 [(0, .inr (.inr x0)), (1, .inl x1), (2, .inl x2), (3, .inl x3)] [] h (qI Q) → Go i_X2_longestRunStart 6 [(0, .inr (.inr x0)), (1, .inl x1), (2, .inl x2), (3, .inl x3)] [] h (qI Q) := fun _ _ _ h z => z
  refine s_iload_n d_X2_longestRunStart_6 rfl (ma 3 rfl) ?_
  refine s_aload_n d_X2_longestRunStart_7 rfl (ma 0 rfl) ?_
  obtain ⟨o, hV⟩ := hV
  refine f_RX2_21g rfl d_X2_longestRunStart_8 o ?_
  refine s_icmp_ge (tgt := 57) d_X2_longestRunStart_11 (by decide) (fun c => ?_) (fun c => ?_)
  · have hV := hV.1 c
    refine s_iload_n d_X2_longestRunStart_57 rfl (ma 1 rfl) ?_
    exact s_iret d_X2_longestRunStart_58 rfl rfl ⟨_, rfl, hV⟩
  · have hV := hV.2 c
    refine s_aload_n d_X2_longestRunStart_14 rfl (ma 0 rfl) ?_
    refine s_iload_n d_X2_longestRunStart_15 rfl (ma 3 rfl) ?_
    obtain ⟨o, hV⟩ := hV
    refine v_RX2_49 rfl (Nat.le_of_ble_eq_true rfl) d_X2_longestRunStart_16 o (Nat.le_of_ble_eq_true rfl) hV (fun r2 h1 hV => ?_)
    refine s_aload_n d_X2_longestRunStart_19 rfl (ma 0 rfl) ?_
    refine s_iload_n d_X2_longestRunStart_20 rfl (ma 3 rfl) ?_
    refine s_iconst d_X2_longestRunStart_21 (okn rfl) ?_
    obtain ⟨o, hV⟩ := hV
    refine s_isub d_X2_longestRunStart_22 o ?_
    obtain ⟨o, hV⟩ := hV
    refine v_RX2_49 rfl (Nat.le_of_ble_eq_true rfl) d_X2_longestRunStart_23 o (Nat.le_of_ble_eq_true rfl) hV (fun r4 h3 hV => ?_)
    refine s_icmp_eq (tgt := 37) d_X2_longestRunStart_26 (by decide) (fun c => ?_) (fun c => ?_)
    · have hV := hV.1 c
      refine s_iconst d_X2_longestRunStart_37 (okn rfl) ?_
      exact GJ_X2_longestRunStart_38 _ _ _ _ _ _ _ (by intros; apply hP6; assumption) hV
    · have hV := hV.2 c
      refine s_aload_n d_X2_longestRunStart_29 rfl (ma 0 rfl) ?_
      refine s_iload_n d_X2_longestRunStart_30 rfl (ma 3 rfl) ?_
      obtain ⟨o, hV⟩ := hV
      refine v_RX2_57 rfl (Nat.le_of_ble_eq_true rfl) d_X2_longestRunStart_31 o (Nat.le_of_ble_eq_true rfl) hV (fun r6 h5 hV => ?_)
      refine s_goto (tgt := 38) d_X2_longestRunStart_34 (by decide) ?_
      exact GJ_X2_longestRunStart_38 _ _ _ _ _ _ _ (by intros; apply hP6; assumption) hV
def V_X2_longestRunStart (x0 : Nat) (h : Hp) (Q : Int → Hp → Prop) : Prop :=
  Lp_X2_longestRunStart_6 x0 (-1) 0 0 h Q
theorem G_X2_longestRunStart {x0 : Nat} (h : Hp) (Q : Int → Hp → Prop) (hV : V_X2_longestRunStart x0 h Q) : C_X2_longestRunStart x0 h Q := by
  unfold V_X2_longestRunStart at hV
  show Go i_X2_longestRunStart 0 [(0, .inr (.inr x0))] [] h (qI Q)
  refine s_iconst d_X2_longestRunStart_0 (okn rfl) ?_
  refine s_istore_n (lv' := [(1, .inl (-1)), (0, .inr (.inr x0))]) d_X2_longestRunStart_1 rfl (Nat.le_of_ble_eq_true rfl) rfl ?_
  refine s_iconst d_X2_longestRunStart_2 (okn rfl) ?_
  refine s_istore_n (lv' := [(2, .inl 0), (1, .inl (-1)), (0, .inr (.inr x0))]) d_X2_longestRunStart_3 rfl (Nat.le_of_ble_eq_true rfl) rfl ?_
  refine s_iconst d_X2_longestRunStart_4 (okn rfl) ?_
  refine s_istore_n (lv' := [(3, .inl 0), (2, .inl 0), (1, .inl (-1)), (0, .inr (.inr x0))]) d_X2_longestRunStart_5 rfl (Nat.le_of_ble_eq_true rfl) rfl ?_
  refine s_pick (lv' := [(0, .inr (.inr x0)), (1, .inl (-1)), (2, .inl 0), (3, .inl 0)]) [3, 2, 1, 0] rfl ?_
  exact GLp_X2_longestRunStart_6 _ _ _ _ _ _ hV
