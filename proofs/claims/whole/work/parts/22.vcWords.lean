/-! printed by wip/gen/gen.py: Words -/
theorem d_X10_init_0 : decode i_X10_init.2.1 0 = .ok (.aload_n 0, 1) := by decide +kernel
theorem d_X10_init_1 : decode i_X10_init.2.1 1 = .ok (.invokespecial 3, 3) := by decide +kernel
theorem d_X10_init_4 : decode i_X10_init.2.1 4 = .ok (.aload_n 0, 1) := by decide +kernel
theorem d_X10_init_5 : decode i_X10_init.2.1 5 = .ok (.bipush 6, 2) := by decide +kernel
theorem d_X10_init_7 : decode i_X10_init.2.1 7 = .ok (.anewarray 9, 3) := by decide +kernel
theorem d_X10_init_10 : decode i_X10_init.2.1 10 = .ok (.putfield 11, 3) := by decide +kernel
theorem d_X10_init_13 : decode i_X10_init.2.1 13 = .ok (.aload_n 0, 1) := by decide +kernel
theorem d_X10_init_14 : decode i_X10_init.2.1 14 = .ok (.bipush 61, 2) := by decide +kernel
theorem d_X10_init_16 : decode i_X10_init.2.1 16 = .ok (.newarray .int, 2) := by decide +kernel
theorem d_X10_init_18 : decode i_X10_init.2.1 18 = .ok (.putfield 17, 3) := by decide +kernel
theorem d_X10_init_21 : decode i_X10_init.2.1 21 = .ok (.aload_n 0, 1) := by decide +kernel
theorem d_X10_init_22 : decode i_X10_init.2.1 22 = .ok (.bipush 9, 2) := by decide +kernel
theorem d_X10_init_24 : decode i_X10_init.2.1 24 = .ok (.newarray .int, 2) := by decide +kernel
theorem d_X10_init_26 : decode i_X10_init.2.1 26 = .ok (.putfield 21, 3) := by decide +kernel
theorem d_X10_init_29 : decode i_X10_init.2.1 29 = .ok (.iconst 0, 1) := by decide +kernel
theorem d_X10_init_30 : decode i_X10_init.2.1 30 = .ok (.istore_n 1, 1) := by decide +kernel
theorem d_X10_init_31 : decode i_X10_init.2.1 31 = .ok (.iload_n 1, 1) := by decide +kernel
theorem d_X10_init_32 : decode i_X10_init.2.1 32 = .ok (.bipush 6, 2) := by decide +kernel
theorem d_X10_init_34 : decode i_X10_init.2.1 34 = .ok (.if_icmp .ge 24, 3) := by decide +kernel
theorem d_X10_init_37 : decode i_X10_init.2.1 37 = .ok (.aload_n 0, 1) := by decide +kernel
theorem d_X10_init_38 : decode i_X10_init.2.1 38 = .ok (.getfield 11, 3) := by decide +kernel
theorem d_X10_init_41 : decode i_X10_init.2.1 41 = .ok (.iload_n 1, 1) := by decide +kernel
theorem d_X10_init_42 : decode i_X10_init.2.1 42 = .ok (.new 9, 3) := by decide +kernel
theorem d_X10_init_45 : decode i_X10_init.2.1 45 = .ok (.dup, 1) := by decide +kernel
theorem d_X10_init_46 : decode i_X10_init.2.1 46 = .ok (.bipush 8, 2) := by decide +kernel
theorem d_X10_init_48 : decode i_X10_init.2.1 48 = .ok (.invokespecial 24, 3) := by decide +kernel
theorem d_X10_init_51 : decode i_X10_init.2.1 51 = .ok (.aastore, 1) := by decide +kernel
theorem d_X10_init_52 : decode i_X10_init.2.1 52 = .ok (.iinc 1 1, 3) := by decide +kernel
theorem d_X10_init_55 : decode i_X10_init.2.1 55 = .ok (.goto (-24), 3) := by decide +kernel
theorem d_X10_init_58 : decode i_X10_init.2.1 58 = .ok (.return_, 1) := by decide +kernel
def BLp_X10_init_31 (x0 : Nat) (P31 : Int → Hp → Prop) (x1 : Int) (h : Hp) (Q : Hp → Prop) : Prop :=
  (6 ≤ x1 → (Q h)) ∧ (¬ 6 ≤ x1 → (hK h x0 = 9 ∧ (∀ n1 : Nat, n1 = hN h → ∀ h2 : Hp, h2 = al h 2 0 2 → (hK h2 n1 = 2 ∧ C_X2_init n1 8 h2 (fun h3 => ((hK h3 (hR h x0 0) = 16 ∧ (0 : Int) ≤ x1 ∧ x1 < hL h3 (hR h x0 0) ∧ hK h3 n1 = 2) ∧ ∀ h4 : Hp, h4 = wR h3 (hR h x0 0) x1 n1 → (((-2147483648 : Int) ≤ x1 + 1 ∧ x1 + 1 ≤ (2147483647 : Int)) ∧ (P31 (x1 + 1) h4))))))))
def Lp_X10_init_31 (x0 : Nat) (x1 : Int) (h : Hp) (Q : Hp → Prop) : Prop := ∀ P31 : Int → Hp → Prop, (∀ (x1 : Int) (h : Hp), BLp_X10_init_31 x0 P31 x1 h Q → P31 x1 h) → P31 x1 h
theorem Lp_X10_init_31_ind {x0 : Nat} {Q : Hp → Prop} (I : Int → Hp → Prop) (μ : Int → Hp → Nat) (hs : ∀ (P31 : Int → Hp → Prop) (x1 : Int) (h : Hp), I x1 h → (∀ (x1' : Int) (h' : Hp), I x1' h' → μ x1' h' < μ x1 h → P31 x1' h') → BLp_X10_init_31 x0 P31 x1 h Q) : ∀ (x1 : Int) (h : Hp), I x1 h → Lp_X10_init_31 x0 x1 h Q := by
  intro x1 h hI P31 hP
  have key : ∀ (n : Nat) (x1 : Int) (h : Hp), I x1 h → μ x1 h < n → P31 x1 h := by
    intro n
    induction n with
    | zero => intro x1 h _ hl; exact absurd hl (Nat.not_lt_zero _)
    | succ n ih => intro x1 h hi hl; exact hP x1 h (hs P31 x1 h hi (fun x1 h' hi' hl' => ih x1 h' hi' (by omega)))
  exact key _ x1 h hI (Nat.lt_succ_self _)
theorem GLp_X10_init_31 (x0 : Nat) (x1 : Int) (h : Hp) (Q : Hp → Prop) (hV : Lp_X10_init_31 x0 x1 h Q) : Go i_X10_init 31 [(0, .inr (.inr x0)), (1, .inl x1)] [] h (qV Q) := by
  refine hV (fun x1 h => Go i_X10_init 31 [(0, .inr (.inr x0)), (1, .inl x1)] [] h (qV Q)) (fun x1 h hV => ?_)
  unfold BLp_X10_init_31 at hV
  have hP31 : ∀ (x1 : Int) (h : Hp), Go i_X10_init 31 [(0, .inr (.inr x0)), (1, .inl x1)] [] h (qV Q) → Go i_X10_init 31 [(0, .inr (.inr x0)), (1, .inl x1)] [] h (qV Q) := fun _ h z => z
  refine s_iload_n d_X10_init_31 rfl (ma 1 rfl) ?_
  refine s_bipush d_X10_init_32 (by decide) (okn rfl) ?_
  refine s_icmp_ge (tgt := 58) d_X10_init_34 (by decide) (fun c => ?_) (fun c => ?_)
  · have hV := hV.1 c
    exact s_vret d_X10_init_58 rfl ⟨rfl, hV⟩
  · have hV := hV.2 c
    refine s_aload_n d_X10_init_37 rfl (ma 0 rfl) ?_
    obtain ⟨o, hV⟩ := hV
    refine f_RX10_11g rfl d_X10_init_38 o ?_
    refine s_iload_n d_X10_init_41 rfl (ma 1 rfl) ?_
    refine s_new (ci := 2) d_X10_init_42 rfl q_RX10_9 ?_
    refine s_nmA (fun n1 en1 => ?_)
    refine s_nmH (fun h2 eh2 => ?_)
    have hV := hV n1 en1 h2 eh2
    refine s_dup d_X10_init_45 rfl ?_
    refine s_bipush d_X10_init_46 (by decide) (okn rfl) ?_
    obtain ⟨o, hV⟩ := hV
    refine v_RX10_24 rfl (Nat.le_of_ble_eq_true rfl) d_X10_init_48 o (Nat.le_of_ble_eq_true rfl) hV (fun h3 hV => ?_)
    obtain ⟨o, hV⟩ := hV
    refine s_aast d_X10_init_51 (Or.inl ⟨o.1, o.2.2.2⟩) o.2.1 o.2.2.1 ?_
    refine s_nmH (fun h4 eh4 => ?_)
    have hV := hV h4 eh4
    obtain ⟨o, hV⟩ := hV
    refine s_iinc (lv' := [(1, .inl (x1 + 1)), (0, .inr (.inr x0))]) d_X10_init_52 (ma 1 rfl) o (Nat.le_of_ble_eq_true rfl) rfl ?_
    refine s_goto (tgt := 31) d_X10_init_55 (by decide) ?_
    refine s_pick (lv' := [(0, .inr (.inr x0)), (1, .inl (x1 + 1))]) [1, 0] rfl ?_
    exact hP31 _ _ hV
def V_X10_init (x0 : Nat) (h : Hp) (Q : Hp → Prop) : Prop :=
  hK h x0 = 9 ∧ (((0 : Int) ≤ 6 ∧ 6 ≤ (100000000 : Int)) ∧ ∀ n1 : Nat, n1 = hN h → ∀ h2 : Hp, h2 = al h 16 6 (Int.toNat 6) → (hK h2 x0 = 9 ∧ ∀ h3 : Hp, h3 = wR h2 x0 0 n1 → (((0 : Int) ≤ 61 ∧ 61 ≤ (100000000 : Int)) ∧ ∀ n4 : Nat, n4 = hN h3 → ∀ h5 : Hp, h5 = al h3 12 61 (Int.toNat 61) → (hK h5 x0 = 9 ∧ ∀ h6 : Hp, h6 = wR h5 x0 1 n4 → (((0 : Int) ≤ 9 ∧ 9 ≤ (100000000 : Int)) ∧ ∀ n7 : Nat, n7 = hN h6 → ∀ h8 : Hp, h8 = al h6 12 9 (Int.toNat 9) → (hK h8 x0 = 9 ∧ ∀ h9 : Hp, h9 = wR h8 x0 2 n7 → (Lp_X10_init_31 x0 0 h9 Q)))))))
theorem G_X10_init {x0 : Nat} (h : Hp) (Q : Hp → Prop) (hV : V_X10_init x0 h Q) : C_X10_init x0 h Q := by
  unfold V_X10_init at hV
  show Go i_X10_init 0 [(0, .inr (.inr x0))] [] h (qV Q)
  refine s_aload_n d_X10_init_0 rfl (ma 0 rfl) ?_
  obtain ⟨o, hV⟩ := hV
  refine s_objInit d_X10_init_1 ob_RX10_3 (Nat.le_of_ble_eq_true rfl) rfl (by rw [o]; decide) ?_
  refine s_aload_n d_X10_init_4 rfl (ma 0 rfl) ?_
  refine s_bipush d_X10_init_5 (by decide) (okn rfl) ?_
  obtain ⟨o, hV⟩ := hV
  refine s_newF d_X10_init_7 q_RX10_9 o.1 o.2 ?_
  refine s_nmA (fun n1 en1 => ?_)
  refine s_nmH (fun h2 eh2 => ?_)
  have hV := hV n1 en1 h2 eh2
  obtain ⟨o, hV⟩ := hV
  refine f_RX10_11p rfl rfl d_X10_init_10 o (fun h3 eh3 => ?_)
  have hV := hV h3 eh3
  refine s_aload_n d_X10_init_13 rfl (ma 0 rfl) ?_
  refine s_bipush d_X10_init_14 (by decide) (okn rfl) ?_
  obtain ⟨o, hV⟩ := hV
  refine s_newi d_X10_init_16 ac_int o.1 o.2 ?_
  refine s_nmA (fun n4 en4 => ?_)
  refine s_nmH (fun h5 eh5 => ?_)
  have hV := hV n4 en4 h5 eh5
  obtain ⟨o, hV⟩ := hV
  refine f_RX10_17p rfl rfl d_X10_init_18 o (fun h6 eh6 => ?_)
  have hV := hV h6 eh6
  refine s_aload_n d_X10_init_21 rfl (ma 0 rfl) ?_
  refine s_bipush d_X10_init_22 (by decide) (okn rfl) ?_
  obtain ⟨o, hV⟩ := hV
  refine s_newi d_X10_init_24 ac_int o.1 o.2 ?_
  refine s_nmA (fun n7 en7 => ?_)
  refine s_nmH (fun h8 eh8 => ?_)
  have hV := hV n7 en7 h8 eh8
  obtain ⟨o, hV⟩ := hV
  refine f_RX10_21p rfl rfl d_X10_init_26 o (fun h9 eh9 => ?_)
  have hV := hV h9 eh9
  refine s_iconst d_X10_init_29 (okn rfl) ?_
  refine s_istore_n (lv' := [(1, .inl 0), (0, .inr (.inr x0))]) d_X10_init_30 rfl (Nat.le_of_ble_eq_true rfl) rfl ?_
  refine s_pick (lv' := [(0, .inr (.inr x0)), (1, .inl 0)]) [1, 0] rfl ?_
  exact GLp_X10_init_31 _ _ _ _ hV

theorem d_X10_get_0 : decode i_X10_get.2.1 0 = .ok (.iload_n 1, 1) := by decide +kernel
theorem d_X10_get_1 : decode i_X10_get.2.1 1 = .ok (.ifCond .lt 20, 3) := by decide +kernel
theorem d_X10_get_4 : decode i_X10_get.2.1 4 = .ok (.iload_n 1, 1) := by decide +kernel
theorem d_X10_get_5 : decode i_X10_get.2.1 5 = .ok (.aload_n 0, 1) := by decide +kernel
theorem d_X10_get_6 : decode i_X10_get.2.1 6 = .ok (.getfield 27, 3) := by decide +kernel
theorem d_X10_get_9 : decode i_X10_get.2.1 9 = .ok (.if_icmp .ge 12, 3) := by decide +kernel
theorem d_X10_get_12 : decode i_X10_get.2.1 12 = .ok (.aload_n 0, 1) := by decide +kernel
theorem d_X10_get_13 : decode i_X10_get.2.1 13 = .ok (.getfield 11, 3) := by decide +kernel
theorem d_X10_get_16 : decode i_X10_get.2.1 16 = .ok (.iload_n 1, 1) := by decide +kernel
theorem d_X10_get_17 : decode i_X10_get.2.1 17 = .ok (.aaload, 1) := by decide +kernel
theorem d_X10_get_18 : decode i_X10_get.2.1 18 = .ok (.goto 4, 3) := by decide +kernel
theorem d_X10_get_21 : decode i_X10_get.2.1 21 = .ok (.aconst_null, 1) := by decide +kernel
theorem d_X10_get_22 : decode i_X10_get.2.1 22 = .ok (.areturn, 1) := by decide +kernel
def V_X10_get (x0 : Nat) (x1 : Int) (h : Hp) (Q : Nat → Hp → Prop) : Prop :=
  (x1 < 0 → (Q 0 h)) ∧ (¬ x1 < 0 → (hK h x0 = 9 ∧ ((hI h x0 3 ≤ x1 → (Q 0 h)) ∧ (¬ hI h x0 3 ≤ x1 → (hK h x0 = 9 ∧ ((hK h (hR h x0 0) = 16 ∧ (0 : Int) ≤ x1 ∧ x1 < hL h (hR h x0 0)) ∧ (Q (hR h (hR h x0 0) x1) h)))))))
theorem G_X10_get {x0 : Nat} {x1 : Int} (h : Hp) (Q : Nat → Hp → Prop) (hV : V_X10_get x0 x1 h Q) : C_X10_get x0 x1 h Q := by
  unfold V_X10_get at hV
  show Go i_X10_get 0 [(0, .inr (.inr x0)), (1, .inl x1)] [] h (qR Q)
  refine s_iload_n d_X10_get_0 rfl (ma 1 rfl) ?_
  refine s_if_lt (tgt := 21) d_X10_get_1 (by decide) (fun c => ?_) (fun c => ?_)
  · have hV := hV.1 c
    refine s_null d_X10_get_21 ?_
    exact s_aret d_X10_get_22 rfl (Or.inl ⟨_, rfl⟩) ⟨_, rfl, hV⟩
  · have hV := hV.2 c
    refine s_iload_n d_X10_get_4 rfl (ma 1 rfl) ?_
    refine s_aload_n d_X10_get_5 rfl (ma 0 rfl) ?_
    obtain ⟨o, hV⟩ := hV
    refine f_RX10_27g rfl d_X10_get_6 o ?_
    refine s_icmp_ge (tgt := 21) d_X10_get_9 (by decide) (fun c => ?_) (fun c => ?_)
    · have hV := hV.1 c
      refine s_null d_X10_get_21 ?_
      exact s_aret d_X10_get_22 rfl (Or.inl ⟨_, rfl⟩) ⟨_, rfl, hV⟩
    · have hV := hV.2 c
      refine s_aload_n d_X10_get_12 rfl (ma 0 rfl) ?_
      obtain ⟨o, hV⟩ := hV
      refine f_RX10_11g rfl d_X10_get_13 o ?_
      refine s_iload_n d_X10_get_16 rfl (ma 1 rfl) ?_
      obtain ⟨o, hV⟩ := hV
      refine s_aald d_X10_get_17 (Or.inl o.1) o.2.1 o.2.2 ?_
      refine s_goto (tgt := 22) d_X10_get_18 (by decide) ?_
      exact s_aret d_X10_get_22 rfl (Or.inl ⟨_, rfl⟩) ⟨_, rfl, hV⟩

theorem d_X10_open_0 : decode i_X10_open.2.1 0 = .ok (.aload_n 0, 1) := by decide +kernel
theorem d_X10_open_1 : decode i_X10_open.2.1 1 = .ok (.getfield 27, 3) := by decide +kernel
theorem d_X10_open_4 : decode i_X10_open.2.1 4 = .ok (.bipush 6, 2) := by decide +kernel
theorem d_X10_open_6 : decode i_X10_open.2.1 6 = .ok (.if_icmp .lt 5, 3) := by decide +kernel
theorem d_X10_open_9 : decode i_X10_open.2.1 9 = .ok (.aconst_null, 1) := by decide +kernel
theorem d_X10_open_10 : decode i_X10_open.2.1 10 = .ok (.areturn, 1) := by decide +kernel
theorem d_X10_open_11 : decode i_X10_open.2.1 11 = .ok (.aload_n 0, 1) := by decide +kernel
theorem d_X10_open_12 : decode i_X10_open.2.1 12 = .ok (.getfield 11, 3) := by decide +kernel
theorem d_X10_open_15 : decode i_X10_open.2.1 15 = .ok (.aload_n 0, 1) := by decide +kernel
theorem d_X10_open_16 : decode i_X10_open.2.1 16 = .ok (.getfield 27, 3) := by decide +kernel
theorem d_X10_open_19 : decode i_X10_open.2.1 19 = .ok (.aaload, 1) := by decide +kernel
theorem d_X10_open_20 : decode i_X10_open.2.1 20 = .ok (.astore_n 1, 1) := by decide +kernel
theorem d_X10_open_21 : decode i_X10_open.2.1 21 = .ok (.aload_n 1, 1) := by decide +kernel
theorem d_X10_open_22 : decode i_X10_open.2.1 22 = .ok (.iconst 0, 1) := by decide +kernel
theorem d_X10_open_23 : decode i_X10_open.2.1 23 = .ok (.putfield 31, 3) := by decide +kernel
theorem d_X10_open_26 : decode i_X10_open.2.1 26 = .ok (.aload_n 0, 1) := by decide +kernel
theorem d_X10_open_27 : decode i_X10_open.2.1 27 = .ok (.dup, 1) := by decide +kernel
theorem d_X10_open_28 : decode i_X10_open.2.1 28 = .ok (.getfield 27, 3) := by decide +kernel
theorem d_X10_open_31 : decode i_X10_open.2.1 31 = .ok (.iconst 1, 1) := by decide +kernel
theorem d_X10_open_32 : decode i_X10_open.2.1 32 = .ok (.iadd, 1) := by decide +kernel
theorem d_X10_open_33 : decode i_X10_open.2.1 33 = .ok (.putfield 27, 3) := by decide +kernel
theorem d_X10_open_36 : decode i_X10_open.2.1 36 = .ok (.aload_n 1, 1) := by decide +kernel
theorem d_X10_open_37 : decode i_X10_open.2.1 37 = .ok (.areturn, 1) := by decide +kernel
def V_X10_open (x0 : Nat) (h : Hp) (Q : Nat → Hp → Prop) : Prop :=
  hK h x0 = 9 ∧ ((hI h x0 3 < 6 → (hK h x0 = 9 ∧ (hK h x0 = 9 ∧ ((hK h (hR h x0 0) = 16 ∧ (0 : Int) ≤ hI h x0 3 ∧ hI h x0 3 < hL h (hR h x0 0)) ∧ (∀ x1_1 : Nat, x1_1 = hR h (hR h x0 0) (hI h x0 3) → (hK h x1_1 = 2 ∧ ∀ h2 : Hp, h2 = wI h x1_1 1 0 → (hK h2 x0 = 9 ∧ (((-2147483648 : Int) ≤ (hI h2 x0 3) + 1 ∧ (hI h2 x0 3) + 1 ≤ (2147483647 : Int)) ∧ (hK h2 x0 = 9 ∧ ∀ h3 : Hp, h3 = wI h2 x0 3 ((hI h2 x0 3) + 1) → (Q x1_1 h3)))))))))) ∧ (¬ hI h x0 3 < 6 → (Q 0 h)))
theorem G_X10_open {x0 : Nat} (h : Hp) (Q : Nat → Hp → Prop) (hV : V_X10_open x0 h Q) : C_X10_open x0 h Q := by
  unfold V_X10_open at hV
  show Go i_X10_open 0 [(0, .inr (.inr x0))] [] h (qR Q)
  refine s_aload_n d_X10_open_0 rfl (ma 0 rfl) ?_
  obtain ⟨o, hV⟩ := hV
  refine f_RX10_27g rfl d_X10_open_1 o ?_
  refine s_bipush d_X10_open_4 (by decide) (okn rfl) ?_
  refine s_icmp_lt (tgt := 11) d_X10_open_6 (by decide) (fun c => ?_) (fun c => ?_)
  · have hV := hV.1 c
    refine s_aload_n d_X10_open_11 rfl (ma 0 rfl) ?_
    obtain ⟨o, hV⟩ := hV
    refine f_RX10_11g rfl d_X10_open_12 o ?_
    refine s_aload_n d_X10_open_15 rfl (ma 0 rfl) ?_
    obtain ⟨o, hV⟩ := hV
    refine f_RX10_27g rfl d_X10_open_16 o ?_
    obtain ⟨o, hV⟩ := hV
    refine s_aald d_X10_open_19 (Or.inl o.1) o.2.1 o.2.2 ?_
    refine s_nmA (fun x1_1 ex1_1 => ?_)
    have hV := hV x1_1 ex1_1
    refine s_astore_n (lv' := [(1, .inr (.inr x1_1)), (0, .inr (.inr x0))]) d_X10_open_20 rfl (Nat.le_of_ble_eq_true rfl) rfl ?_
    refine s_aload_n d_X10_open_21 rfl (ma 0 rfl) ?_
    refine s_iconst d_X10_open_22 (okn rfl) ?_
    obtain ⟨o, hV⟩ := hV
    refine f_RX10_31p rfl d_X10_open_23 o (fun h2 eh2 => ?_)
    have hV := hV h2 eh2
    refine s_aload_n d_X10_open_26 rfl (ma 1 rfl) ?_
    refine s_dup d_X10_open_27 rfl ?_
    obtain ⟨o, hV⟩ := hV
    refine f_RX10_27g rfl d_X10_open_28 o ?_
    refine s_iconst d_X10_open_31 (okn rfl) ?_
    obtain ⟨o, hV⟩ := hV
    refine s_iadd d_X10_open_32 o ?_
    obtain ⟨o, hV⟩ := hV
    refine f_RX10_27p rfl d_X10_open_33 o (fun h3 eh3 => ?_)
    have hV := hV h3 eh3
    refine s_aload_n d_X10_open_36 rfl (ma 0 rfl) ?_
    exact s_aret d_X10_open_37 rfl (Or.inl ⟨_, rfl⟩) ⟨_, rfl, hV⟩
  · have hV := hV.2 c
    refine s_null d_X10_open_9 ?_
    exact s_aret d_X10_open_10 rfl (Or.inl ⟨_, rfl⟩) ⟨_, rfl, hV⟩

theorem d_X10_copyFrom_0 : decode i_X10_copyFrom.2.1 0 = .ok (.aload_n 0, 1) := by decide +kernel
theorem d_X10_copyFrom_1 : decode i_X10_copyFrom.2.1 1 = .ok (.aload_n 1, 1) := by decide +kernel
theorem d_X10_copyFrom_2 : decode i_X10_copyFrom.2.1 2 = .ok (.getfield 27, 3) := by decide +kernel
theorem d_X10_copyFrom_5 : decode i_X10_copyFrom.2.1 5 = .ok (.putfield 27, 3) := by decide +kernel
theorem d_X10_copyFrom_8 : decode i_X10_copyFrom.2.1 8 = .ok (.iconst 0, 1) := by decide +kernel
theorem d_X10_copyFrom_9 : decode i_X10_copyFrom.2.1 9 = .ok (.istore_n 2, 1) := by decide +kernel
theorem d_X10_copyFrom_10 : decode i_X10_copyFrom.2.1 10 = .ok (.iload_n 2, 1) := by decide +kernel
theorem d_X10_copyFrom_11 : decode i_X10_copyFrom.2.1 11 = .ok (.aload_n 0, 1) := by decide +kernel
theorem d_X10_copyFrom_12 : decode i_X10_copyFrom.2.1 12 = .ok (.getfield 27, 3) := by decide +kernel
theorem d_X10_copyFrom_15 : decode i_X10_copyFrom.2.1 15 = .ok (.if_icmp .ge 24, 3) := by decide +kernel
theorem d_X10_copyFrom_18 : decode i_X10_copyFrom.2.1 18 = .ok (.aload_n 0, 1) := by decide +kernel
theorem d_X10_copyFrom_19 : decode i_X10_copyFrom.2.1 19 = .ok (.getfield 11, 3) := by decide +kernel
theorem d_X10_copyFrom_22 : decode i_X10_copyFrom.2.1 22 = .ok (.iload_n 2, 1) := by decide +kernel
theorem d_X10_copyFrom_23 : decode i_X10_copyFrom.2.1 23 = .ok (.aaload, 1) := by decide +kernel
theorem d_X10_copyFrom_24 : decode i_X10_copyFrom.2.1 24 = .ok (.aload_n 1, 1) := by decide +kernel
theorem d_X10_copyFrom_25 : decode i_X10_copyFrom.2.1 25 = .ok (.getfield 11, 3) := by decide +kernel
theorem d_X10_copyFrom_28 : decode i_X10_copyFrom.2.1 28 = .ok (.iload_n 2, 1) := by decide +kernel
theorem d_X10_copyFrom_29 : decode i_X10_copyFrom.2.1 29 = .ok (.aaload, 1) := by decide +kernel
theorem d_X10_copyFrom_30 : decode i_X10_copyFrom.2.1 30 = .ok (.invokevirtual 32, 3) := by decide +kernel
theorem d_X10_copyFrom_33 : decode i_X10_copyFrom.2.1 33 = .ok (.iinc 2 1, 3) := by decide +kernel
theorem d_X10_copyFrom_36 : decode i_X10_copyFrom.2.1 36 = .ok (.goto (-26), 3) := by decide +kernel
theorem d_X10_copyFrom_39 : decode i_X10_copyFrom.2.1 39 = .ok (.return_, 1) := by decide +kernel
def BLp_X10_copyFrom_10 (x0 : Nat) (x1 : Nat) (P10 : Int → Hp → Prop) (x2 : Int) (h : Hp) (Q : Hp → Prop) : Prop :=
  hK h x0 = 9 ∧ ((hI h x0 3 ≤ x2 → (Q h)) ∧ (¬ hI h x0 3 ≤ x2 → (hK h x0 = 9 ∧ ((hK h (hR h x0 0) = 16 ∧ (0 : Int) ≤ x2 ∧ x2 < hL h (hR h x0 0)) ∧ (hK h x1 = 9 ∧ ((hK h (hR h x1 0) = 16 ∧ (0 : Int) ≤ x2 ∧ x2 < hL h (hR h x1 0)) ∧ (hK h (hR h (hR h x0 0) x2) = 2 ∧ C_X2_copyFrom (hR h (hR h x0 0) x2) (hR h (hR h x1 0) x2) h (fun h1 => (((-2147483648 : Int) ≤ x2 + 1 ∧ x2 + 1 ≤ (2147483647 : Int)) ∧ (P10 (x2 + 1) h1))))))))))
def Lp_X10_copyFrom_10 (x0 : Nat) (x1 : Nat) (x2 : Int) (h : Hp) (Q : Hp → Prop) : Prop := ∀ P10 : Int → Hp → Prop, (∀ (x2 : Int) (h : Hp), BLp_X10_copyFrom_10 x0 x1 P10 x2 h Q → P10 x2 h) → P10 x2 h
theorem Lp_X10_copyFrom_10_ind {x0 : Nat} {x1 : Nat} {Q : Hp → Prop} (I : Int → Hp → Prop) (μ : Int → Hp → Nat) (hs : ∀ (P10 : Int → Hp → Prop) (x2 : Int) (h : Hp), I x2 h → (∀ (x2' : Int) (h' : Hp), I x2' h' → μ x2' h' < μ x2 h → P10 x2' h') → BLp_X10_copyFrom_10 x0 x1 P10 x2 h Q) : ∀ (x2 : Int) (h : Hp), I x2 h → Lp_X10_copyFrom_10 x0 x1 x2 h Q := by
  intro x2 h hI P10 hP
  have key : ∀ (n : Nat) (x2 : Int) (h : Hp), I x2 h → μ x2 h < n → P10 x2 h := by
    intro n
    induction n with
    | zero => intro x2 h _ hl; exact absurd hl (Nat.not_lt_zero _)
    | succ n ih => intro x2 h hi hl; exact hP x2 h (hs P10 x2 h hi (fun x2 h' hi' hl' => ih x2 h' hi' (by omega)))
  exact key _ x2 h hI (Nat.lt_succ_self _)
theorem GLp_X10_copyFrom_10 (x0 : Nat) (x1 : Nat) (x2 : Int) (h : Hp) (Q : Hp → Prop) (hV : Lp_X10_copyFrom_10 x0 x1 x2 h Q) : Go i_X10_copyFrom 10 [(0, .inr (.inr x0)), (1, .inr (.inr x1)), (2, .inl x2)] [] h (qV Q) := by
  refine hV (fun x2 h => Go i_X10_copyFrom 10 [(0, .inr (.inr x0)), (1, .inr (.inr x1)), (2, .inl x2)] [] h (qV Q)) (fun x2 h hV => ?_)
  unfold BLp_X10_copyFrom_10 at hV
  have hP10 : ∀ (x2 : Int) (h : Hp), Go i_X10_copyFrom 10 [(0, .inr (.inr x0)), (1, .inr (.inr x1)), (2, .inl x2)] [] h (qV Q) → Go i_X10_copyFrom 10 [(0, .inr (.inr x0)), (1, .inr (.inr x1)), (2, .inl x2)] [] h (qV Q) := fun _ h z => z
  refine s_iload_n d_X10_copyFrom_10 rfl (ma 2 rfl) ?_
  refine s_aload_n d_X10_copyFrom_11 rfl (ma 0 rfl) ?_
  obtain ⟨o, hV⟩ := hV
  refine f_RX10_27g rfl d_X10_copyFrom_12 o ?_
  refine s_icmp_ge (tgt := 39) d_X10_copyFrom_15 (by decide) (fun c => ?_) (fun c => ?_)
  · have hV := hV.1 c
    exact s_vret d_X10_copyFrom_39 rfl ⟨rfl, hV⟩
  · have hV := hV.2 c
    refine s_aload_n d_X10_copyFrom_18 rfl (ma 0 rfl) ?_
    obtain ⟨o, hV⟩ := hV
    refine f_RX10_11g rfl d_X10_copyFrom_19 o ?_
    refine s_iload_n d_X10_copyFrom_22 rfl (ma 2 rfl) ?_
    obtain ⟨o, hV⟩ := hV
    refine s_aald d_X10_copyFrom_23 (Or.inl o.1) o.2.1 o.2.2 ?_
    refine s_aload_n d_X10_copyFrom_24 rfl (ma 1 rfl) ?_
    obtain ⟨o, hV⟩ := hV
    refine f_RX10_11g rfl d_X10_copyFrom_25 o ?_
    refine s_iload_n d_X10_copyFrom_28 rfl (ma 2 rfl) ?_
    obtain ⟨o, hV⟩ := hV
    refine s_aald d_X10_copyFrom_29 (Or.inl o.1) o.2.1 o.2.2 ?_
    obtain ⟨o, hV⟩ := hV
    refine v_RX10_32 rfl (Nat.le_of_ble_eq_true rfl) d_X10_copyFrom_30 o (Nat.le_of_ble_eq_true rfl) hV (fun h1 hV => ?_)
    obtain ⟨o, hV⟩ := hV
    refine s_iinc (lv' := [(2, .inl (x2 + 1)), (0, .inr (.inr x0)), (1, .inr (.inr x1))]) d_X10_copyFrom_33 (ma 2 rfl) o (Nat.le_of_ble_eq_true rfl) rfl ?_
    refine s_goto (tgt := 10) d_X10_copyFrom_36 (by decide) ?_
    refine s_pick (lv' := [(0, .inr (.inr x0)), (1, .inr (.inr x1)), (2, .inl (x2 + 1))]) [1, 2, 0] rfl ?_
    exact hP10 _ _ hV
def V_X10_copyFrom (x0 : Nat) (x1 : Nat) (h : Hp) (Q : Hp → Prop) : Prop :=
  hK h x1 = 9 ∧ (hK h x0 = 9 ∧ ∀ h1 : Hp, h1 = wI h x0 3 (hI h x1 3) → (Lp_X10_copyFrom_10 x0 x1 0 h1 Q))
theorem G_X10_copyFrom {x0 : Nat} {x1 : Nat} (h : Hp) (Q : Hp → Prop) (hV : V_X10_copyFrom x0 x1 h Q) : C_X10_copyFrom x0 x1 h Q := by
  unfold V_X10_copyFrom at hV
  show Go i_X10_copyFrom 0 [(0, .inr (.inr x0)), (1, .inr (.inr x1))] [] h (qV Q)
  refine s_aload_n d_X10_copyFrom_0 rfl (ma 0 rfl) ?_
  refine s_aload_n d_X10_copyFrom_1 rfl (ma 1 rfl) ?_
  obtain ⟨o, hV⟩ := hV
  refine f_RX10_27g rfl d_X10_copyFrom_2 o ?_
  obtain ⟨o, hV⟩ := hV
  refine f_RX10_27p rfl d_X10_copyFrom_5 o (fun h1 eh1 => ?_)
  have hV := hV h1 eh1
  refine s_iconst d_X10_copyFrom_8 (okn rfl) ?_
  refine s_istore_n (lv' := [(2, .inl 0), (0, .inr (.inr x0)), (1, .inr (.inr x1))]) d_X10_copyFrom_9 rfl (Nat.le_of_ble_eq_true rfl) rfl ?_
  refine s_pick (lv' := [(0, .inr (.inr x0)), (1, .inr (.inr x1)), (2, .inl 0)]) [1, 2, 0] rfl ?_
  exact GLp_X10_copyFrom_10 _ _ _ _ _ hV

theorem d_X10_waysToTell_0 : decode i_X10_waysToTell.2.1 0 = .ok (.aload_n 1, 1) := by decide +kernel
theorem d_X10_waysToTell_1 : decode i_X10_waysToTell.2.1 1 = .ok (.getfield 31, 3) := by decide +kernel
theorem d_X10_waysToTell_4 : decode i_X10_waysToTell.2.1 4 = .ok (.bipush 60, 2) := by decide +kernel
theorem d_X10_waysToTell_6 : decode i_X10_waysToTell.2.1 6 = .ok (.invokestatic 36, 3) := by decide +kernel
theorem d_X10_waysToTell_9 : decode i_X10_waysToTell.2.1 9 = .ok (.istore_n 2, 1) := by decide +kernel
theorem d_X10_waysToTell_10 : decode i_X10_waysToTell.2.1 10 = .ok (.aload_n 0, 1) := by decide +kernel
theorem d_X10_waysToTell_11 : decode i_X10_waysToTell.2.1 11 = .ok (.getfield 17, 3) := by decide +kernel
theorem d_X10_waysToTell_14 : decode i_X10_waysToTell.2.1 14 = .ok (.iconst 0, 1) := by decide +kernel
theorem d_X10_waysToTell_15 : decode i_X10_waysToTell.2.1 15 = .ok (.iconst 1, 1) := by decide +kernel
theorem d_X10_waysToTell_16 : decode i_X10_waysToTell.2.1 16 = .ok (.iastore, 1) := by decide +kernel
theorem d_X10_waysToTell_17 : decode i_X10_waysToTell.2.1 17 = .ok (.iconst 1, 1) := by decide +kernel
theorem d_X10_waysToTell_18 : decode i_X10_waysToTell.2.1 18 = .ok (.istore_n 3, 1) := by decide +kernel
theorem d_X10_waysToTell_19 : decode i_X10_waysToTell.2.1 19 = .ok (.iload_n 3, 1) := by decide +kernel
theorem d_X10_waysToTell_20 : decode i_X10_waysToTell.2.1 20 = .ok (.iload_n 2, 1) := by decide +kernel
theorem d_X10_waysToTell_21 : decode i_X10_waysToTell.2.1 21 = .ok (.if_icmp .gt 21, 3) := by decide +kernel
theorem d_X10_waysToTell_24 : decode i_X10_waysToTell.2.1 24 = .ok (.aload_n 0, 1) := by decide +kernel
theorem d_X10_waysToTell_25 : decode i_X10_waysToTell.2.1 25 = .ok (.getfield 17, 3) := by decide +kernel
theorem d_X10_waysToTell_28 : decode i_X10_waysToTell.2.1 28 = .ok (.iload_n 3, 1) := by decide +kernel
theorem d_X10_waysToTell_29 : decode i_X10_waysToTell.2.1 29 = .ok (.aload_n 0, 1) := by decide +kernel
theorem d_X10_waysToTell_30 : decode i_X10_waysToTell.2.1 30 = .ok (.aload_n 1, 1) := by decide +kernel
theorem d_X10_waysToTell_31 : decode i_X10_waysToTell.2.1 31 = .ok (.iload_n 3, 1) := by decide +kernel
theorem d_X10_waysToTell_32 : decode i_X10_waysToTell.2.1 32 = .ok (.invokevirtual 42, 3) := by decide +kernel
theorem d_X10_waysToTell_35 : decode i_X10_waysToTell.2.1 35 = .ok (.iastore, 1) := by decide +kernel
theorem d_X10_waysToTell_36 : decode i_X10_waysToTell.2.1 36 = .ok (.iinc 3 1, 3) := by decide +kernel
theorem d_X10_waysToTell_39 : decode i_X10_waysToTell.2.1 39 = .ok (.goto (-20), 3) := by decide +kernel
theorem d_X10_waysToTell_42 : decode i_X10_waysToTell.2.1 42 = .ok (.aload_n 0, 1) := by decide +kernel
theorem d_X10_waysToTell_43 : decode i_X10_waysToTell.2.1 43 = .ok (.getfield 17, 3) := by decide +kernel
theorem d_X10_waysToTell_46 : decode i_X10_waysToTell.2.1 46 = .ok (.iload_n 2, 1) := by decide +kernel
theorem d_X10_waysToTell_47 : decode i_X10_waysToTell.2.1 47 = .ok (.iaload, 1) := by decide +kernel
theorem d_X10_waysToTell_48 : decode i_X10_waysToTell.2.1 48 = .ok (.ireturn, 1) := by decide +kernel
def BLp_X10_waysToTell_19 (x0 : Nat) (x1 : Nat) (x2 : Int) (P19 : Int → Hp → Prop) (x3 : Int) (h : Hp) (Q : Int → Hp → Prop) : Prop :=
  (x2 < x3 → (hK h x0 = 9 ∧ ((hK h (hR h x0 1) = 12 ∧ (0 : Int) ≤ x2 ∧ x2 < hL h (hR h x0 1)) ∧ (Q (hI h (hR h x0 1) x2) h)))) ∧ (¬ x2 < x3 → (hK h x0 = 9 ∧ (hK h x0 = 9 ∧ C_X10_waysToEnd x0 x1 x3 h (fun r2 h1 => ((hK h1 (hR h x0 1) = 12 ∧ (0 : Int) ≤ x3 ∧ x3 < hL h1 (hR h x0 1)) ∧ ∀ h3 : Hp, h3 = wI h1 (hR h x0 1) x3 r2 → (((-2147483648 : Int) ≤ x3 + 1 ∧ x3 + 1 ≤ (2147483647 : Int)) ∧ (P19 (x3 + 1) h3)))))))
def Lp_X10_waysToTell_19 (x0 : Nat) (x1 : Nat) (x2 : Int) (x3 : Int) (h : Hp) (Q : Int → Hp → Prop) : Prop := ∀ P19 : Int → Hp → Prop, (∀ (x3 : Int) (h : Hp), BLp_X10_waysToTell_19 x0 x1 x2 P19 x3 h Q → P19 x3 h) → P19 x3 h
theorem Lp_X10_waysToTell_19_ind {x0 : Nat} {x1 : Nat} {x2 : Int} {Q : Int → Hp → Prop} (I : Int → Hp → Prop) (μ : Int → Hp → Nat) (hs : ∀ (P19 : Int → Hp → Prop) (x3 : Int) (h : Hp), I x3 h → (∀ (x3' : Int) (h' : Hp), I x3' h' → μ x3' h' < μ x3 h → P19 x3' h') → BLp_X10_waysToTell_19 x0 x1 x2 P19 x3 h Q) : ∀ (x3 : Int) (h : Hp), I x3 h → Lp_X10_waysToTell_19 x0 x1 x2 x3 h Q := by
  intro x3 h hI P19 hP
  have key : ∀ (n : Nat) (x3 : Int) (h : Hp), I x3 h → μ x3 h < n → P19 x3 h := by
    intro n
    induction n with
    | zero => intro x3 h _ hl; exact absurd hl (Nat.not_lt_zero _)
    | succ n ih => intro x3 h hi hl; exact hP x3 h (hs P19 x3 h hi (fun x3 h' hi' hl' => ih x3 h' hi' (by omega)))
  exact key _ x3 h hI (Nat.lt_succ_self _)
theorem GLp_X10_waysToTell_19 (x0 : Nat) (x1 : Nat) (x2 : Int) (x3 : Int) (h : Hp) (Q : Int → Hp → Prop) (hV : Lp_X10_waysToTell_19 x0 x1 x2 x3 h Q) : Go i_X10_waysToTell 19 [(0, .inr (.inr x0)), (1, .inr (.inr x1)), (2, .inl x2), (3, .inl x3)] [] h (qI Q) := by
  refine hV (fun x3 h => Go i_X10_waysToTell 19 [(0, .inr (.inr x0)), (1, .inr (.inr x1)), (2, .inl x2), (3, .inl x3)] [] h (qI Q)) (fun x3 h hV => ?_)
  unfold BLp_X10_waysToTell_19 at hV
  have hP19 : ∀ (x3 : Int) (h : Hp), Go i_X10_waysToTell 19 [(0, .inr (.inr x0)), (1, .inr (.inr x1)), (2, .inl x2), (3, .inl x3)] [] h (qI Q) → Go i_X10_waysToTell 19 [(0, .inr (.inr x0)), (1, .inr (.inr x1)), (2, .inl x2), (3, .inl x3)] [] h (qI Q) := fun _ h z => z
  refine s_iload_n d_X10_waysToTell_19 rfl (ma 3 rfl) ?_
  refine s_iload_n d_X10_waysToTell_20 rfl (ma 2 rfl) ?_
  refine s_icmp_gt (tgt := 42) d_X10_waysToTell_21 (by decide) (fun c => ?_) (fun c => ?_)
  · have hV := hV.1 c
    refine s_aload_n d_X10_waysToTell_42 rfl (ma 0 rfl) ?_
    obtain ⟨o, hV⟩ := hV
    refine f_RX10_17g rfl d_X10_waysToTell_43 o ?_
    refine s_iload_n d_X10_waysToTell_46 rfl (ma 2 rfl) ?_
    obtain ⟨o, hV⟩ := hV
    refine s_iald d_X10_waysToTell_47 o.1 o.2.1 o.2.2 ?_
    exact s_iret d_X10_waysToTell_48 rfl rfl ⟨_, rfl, hV⟩
  · have hV := hV.2 c
    refine s_aload_n d_X10_waysToTell_24 rfl (ma 0 rfl) ?_
    obtain ⟨o, hV⟩ := hV
    refine f_RX10_17g rfl d_X10_waysToTell_25 o ?_
    refine s_iload_n d_X10_waysToTell_28 rfl (ma 3 rfl) ?_
    refine s_aload_n d_X10_waysToTell_29 rfl (ma 0 rfl) ?_
    refine s_aload_n d_X10_waysToTell_30 rfl (ma 1 rfl) ?_
    refine s_iload_n d_X10_waysToTell_31 rfl (ma 3 rfl) ?_
    obtain ⟨o, hV⟩ := hV
    refine v_RX10_42 rfl (Nat.le_of_ble_eq_true rfl) d_X10_waysToTell_32 o (Nat.le_of_ble_eq_true rfl) hV (fun r2 h1 hV => ?_)
    obtain ⟨o, hV⟩ := hV
    refine s_iast d_X10_waysToTell_35 o.1 o.2.1 o.2.2 ?_
    refine s_nmH (fun h3 eh3 => ?_)
    have hV := hV h3 eh3
    obtain ⟨o, hV⟩ := hV
    refine s_iinc (lv' := [(3, .inl (x3 + 1)), (0, .inr (.inr x0)), (1, .inr (.inr x1)), (2, .inl x2)]) d_X10_waysToTell_36 (ma 3 rfl) o (Nat.le_of_ble_eq_true rfl) rfl ?_
    refine s_goto (tgt := 19) d_X10_waysToTell_39 (by decide) ?_
    refine s_pick (lv' := [(0, .inr (.inr x0)), (1, .inr (.inr x1)), (2, .inl x2), (3, .inl (x3 + 1))]) [1, 2, 3, 0] rfl ?_
    exact hP19 _ _ hV
def V_X10_waysToTell (x0 : Nat) (x1 : Nat) (h : Hp) (Q : Int → Hp → Prop) : Prop :=
  hK h x1 = 2 ∧ (∀ x2_1 : Int, x2_1 = min (hI h x1 1) 60 → (hK h x0 = 9 ∧ ((hK h (hR h x0 1) = 12 ∧ (0 : Int) ≤ 0 ∧ 0 < hL h (hR h x0 1)) ∧ ∀ h2 : Hp, h2 = wI h (hR h x0 1) 0 1 → (Lp_X10_waysToTell_19 x0 x1 x2_1 1 h2 Q))))
theorem G_X10_waysToTell {x0 : Nat} {x1 : Nat} (h : Hp) (Q : Int → Hp → Prop) (hV : V_X10_waysToTell x0 x1 h Q) : C_X10_waysToTell x0 x1 h Q := by
  unfold V_X10_waysToTell at hV
  show Go i_X10_waysToTell 0 [(0, .inr (.inr x0)), (1, .inr (.inr x1))] [] h (qI Q)
  refine s_aload_n d_X10_waysToTell_0 rfl (ma 1 rfl) ?_
  obtain ⟨o, hV⟩ := hV
  refine f_RX10_31g rfl d_X10_waysToTell_1 o ?_
  refine s_bipush d_X10_waysToTell_4 (by decide) (okn rfl) ?_
  refine s_mmin d_X10_waysToTell_6 mm_RX10_36 (Nat.le_of_ble_eq_true rfl) (Nat.le_of_ble_eq_true rfl) ?_
  refine s_nmI (fun x2_1 ex2_1 => ?_)
  have hV := hV x2_1 ex2_1
  refine s_istore_n (lv' := [(2, .inl x2_1), (0, .inr (.inr x0)), (1, .inr (.inr x1))]) d_X10_waysToTell_9 rfl (Nat.le_of_ble_eq_true rfl) rfl ?_
  refine s_aload_n d_X10_waysToTell_10 rfl (ma 1 rfl) ?_
  obtain ⟨o, hV⟩ := hV
  refine f_RX10_17g rfl d_X10_waysToTell_11 o ?_
  refine s_iconst d_X10_waysToTell_14 (okn rfl) ?_
  refine s_iconst d_X10_waysToTell_15 (okn rfl) ?_
  obtain ⟨o, hV⟩ := hV
  refine s_iast d_X10_waysToTell_16 o.1 o.2.1 o.2.2 ?_
  refine s_nmH (fun h2 eh2 => ?_)
  have hV := hV h2 eh2
  refine s_iconst d_X10_waysToTell_17 (okn rfl) ?_
  refine s_istore_n (lv' := [(3, .inl 1), (2, .inl x2_1), (0, .inr (.inr x0)), (1, .inr (.inr x1))]) d_X10_waysToTell_18 rfl (Nat.le_of_ble_eq_true rfl) rfl ?_
  refine s_pick (lv' := [(0, .inr (.inr x0)), (1, .inr (.inr x1)), (2, .inl x2_1), (3, .inl 1)]) [2, 3, 1, 0] rfl ?_
  exact GLp_X10_waysToTell_19 _ _ _ _ _ _ hV

theorem d_X10_waysToEnd_0 : decode i_X10_waysToEnd.2.1 0 = .ok (.iconst 0, 1) := by decide +kernel
theorem d_X10_waysToEnd_1 : decode i_X10_waysToEnd.2.1 1 = .ok (.istore_n 3, 1) := by decide +kernel
theorem d_X10_waysToEnd_2 : decode i_X10_waysToEnd.2.1 2 = .ok (.iconst 0, 1) := by decide +kernel
theorem d_X10_waysToEnd_3 : decode i_X10_waysToEnd.2.1 3 = .ok (.istore 4, 2) := by decide +kernel
theorem d_X10_waysToEnd_5 : decode i_X10_waysToEnd.2.1 5 = .ok (.iload 4, 2) := by decide +kernel
theorem d_X10_waysToEnd_7 : decode i_X10_waysToEnd.2.1 7 = .ok (.aload_n 0, 1) := by decide +kernel
theorem d_X10_waysToEnd_8 : decode i_X10_waysToEnd.2.1 8 = .ok (.getfield 27, 3) := by decide +kernel
theorem d_X10_waysToEnd_11 : decode i_X10_waysToEnd.2.1 11 = .ok (.if_icmp .ge 59, 3) := by decide +kernel
theorem d_X10_waysToEnd_14 : decode i_X10_waysToEnd.2.1 14 = .ok (.iload_n 2, 1) := by decide +kernel
theorem d_X10_waysToEnd_15 : decode i_X10_waysToEnd.2.1 15 = .ok (.aload_n 0, 1) := by decide +kernel
theorem d_X10_waysToEnd_16 : decode i_X10_waysToEnd.2.1 16 = .ok (.getfield 11, 3) := by decide +kernel
theorem d_X10_waysToEnd_19 : decode i_X10_waysToEnd.2.1 19 = .ok (.iload 4, 2) := by decide +kernel
theorem d_X10_waysToEnd_21 : decode i_X10_waysToEnd.2.1 21 = .ok (.aaload, 1) := by decide +kernel
theorem d_X10_waysToEnd_22 : decode i_X10_waysToEnd.2.1 22 = .ok (.getfield 31, 3) := by decide +kernel
theorem d_X10_waysToEnd_25 : decode i_X10_waysToEnd.2.1 25 = .ok (.isub, 1) := by decide +kernel
theorem d_X10_waysToEnd_26 : decode i_X10_waysToEnd.2.1 26 = .ok (.istore 5, 2) := by decide +kernel
theorem d_X10_waysToEnd_28 : decode i_X10_waysToEnd.2.1 28 = .ok (.iload 5, 2) := by decide +kernel
theorem d_X10_waysToEnd_30 : decode i_X10_waysToEnd.2.1 30 = .ok (.ifCond .lt 34, 3) := by decide +kernel
theorem d_X10_waysToEnd_33 : decode i_X10_waysToEnd.2.1 33 = .ok (.aload_n 1, 1) := by decide +kernel
theorem d_X10_waysToEnd_34 : decode i_X10_waysToEnd.2.1 34 = .ok (.iload 5, 2) := by decide +kernel
theorem d_X10_waysToEnd_36 : decode i_X10_waysToEnd.2.1 36 = .ok (.aload_n 0, 1) := by decide +kernel
theorem d_X10_waysToEnd_37 : decode i_X10_waysToEnd.2.1 37 = .ok (.getfield 11, 3) := by decide +kernel
theorem d_X10_waysToEnd_40 : decode i_X10_waysToEnd.2.1 40 = .ok (.iload 4, 2) := by decide +kernel
theorem d_X10_waysToEnd_42 : decode i_X10_waysToEnd.2.1 42 = .ok (.aaload, 1) := by decide +kernel
theorem d_X10_waysToEnd_43 : decode i_X10_waysToEnd.2.1 43 = .ok (.invokevirtual 46, 3) := by decide +kernel
theorem d_X10_waysToEnd_46 : decode i_X10_waysToEnd.2.1 46 = .ok (.ifCond .eq 18, 3) := by decide +kernel
theorem d_X10_waysToEnd_49 : decode i_X10_waysToEnd.2.1 49 = .ok (.ldc 50, 2) := by decide +kernel
theorem d_X10_waysToEnd_51 : decode i_X10_waysToEnd.2.1 51 = .ok (.iload_n 3, 1) := by decide +kernel
theorem d_X10_waysToEnd_52 : decode i_X10_waysToEnd.2.1 52 = .ok (.aload_n 0, 1) := by decide +kernel
theorem d_X10_waysToEnd_53 : decode i_X10_waysToEnd.2.1 53 = .ok (.getfield 17, 3) := by decide +kernel
theorem d_X10_waysToEnd_56 : decode i_X10_waysToEnd.2.1 56 = .ok (.iload 5, 2) := by decide +kernel
theorem d_X10_waysToEnd_58 : decode i_X10_waysToEnd.2.1 58 = .ok (.iaload, 1) := by decide +kernel
theorem d_X10_waysToEnd_59 : decode i_X10_waysToEnd.2.1 59 = .ok (.iadd, 1) := by decide +kernel
theorem d_X10_waysToEnd_60 : decode i_X10_waysToEnd.2.1 60 = .ok (.invokestatic 36, 3) := by decide +kernel
theorem d_X10_waysToEnd_63 : decode i_X10_waysToEnd.2.1 63 = .ok (.istore_n 3, 1) := by decide +kernel
theorem d_X10_waysToEnd_64 : decode i_X10_waysToEnd.2.1 64 = .ok (.iinc 4 1, 3) := by decide +kernel
theorem d_X10_waysToEnd_67 : decode i_X10_waysToEnd.2.1 67 = .ok (.goto (-62), 3) := by decide +kernel
theorem d_X10_waysToEnd_70 : decode i_X10_waysToEnd.2.1 70 = .ok (.iload_n 3, 1) := by decide +kernel
theorem d_X10_waysToEnd_71 : decode i_X10_waysToEnd.2.1 71 = .ok (.ireturn, 1) := by decide +kernel
def BLp_X10_waysToEnd_5 (x0 : Nat) (x1 : Nat) (x2 : Int) (P5 : Int → Int → Hp → Prop) (x3 : Int) (x4 : Int) (h : Hp) (Q : Int → Hp → Prop) : Prop :=
  hK h x0 = 9 ∧ ((hI h x0 3 ≤ x4 → (Q x3 h)) ∧ (¬ hI h x0 3 ≤ x4 → (hK h x0 = 9 ∧ ((hK h (hR h x0 0) = 16 ∧ (0 : Int) ≤ x4 ∧ x4 < hL h (hR h x0 0)) ∧ (hK h (hR h (hR h x0 0) x4) = 2 ∧ (((-2147483648 : Int) ≤ x2 - (hI h (hR h (hR h x0 0) x4) 1) ∧ x2 - (hI h (hR h (hR h x0 0) x4) 1) ≤ (2147483647 : Int)) ∧ (∀ x5_1 : Int, x5_1 = x2 - (hI h (hR h (hR h x0 0) x4) 1) → ((x5_1 < 0 → (((-2147483648 : Int) ≤ x4 + 1 ∧ x4 + 1 ≤ (2147483647 : Int)) ∧ (P5 x3 (x4 + 1) h))) ∧ (¬ x5_1 < 0 → (hK h x0 = 9 ∧ ((hK h (hR h x0 0) = 16 ∧ (0 : Int) ≤ x4 ∧ x4 < hL h (hR h x0 0)) ∧ (hK h x1 = 2 ∧ C_X2_standsAt x1 x5_1 (hR h (hR h x0 0) x4) h (fun r3 h2 => ((r3 = 0 → (((-2147483648 : Int) ≤ x4 + 1 ∧ x4 + 1 ≤ (2147483647 : Int)) ∧ (P5 x3 (x4 + 1) h2))) ∧ (¬ r3 = 0 → (hK h2 x0 = 9 ∧ ((hK h2 (hR h2 x0 1) = 12 ∧ (0 : Int) ≤ x5_1 ∧ x5_1 < hL h2 (hR h2 x0 1)) ∧ (((-2147483648 : Int) ≤ x3 + (hI h2 (hR h2 x0 1) x5_1) ∧ x3 + (hI h2 (hR h2 x0 1) x5_1) ≤ (2147483647 : Int)) ∧ (∀ x3_4 : Int, x3_4 = min 1000000000 (x3 + (hI h2 (hR h2 x0 1) x5_1)) → (((-2147483648 : Int) ≤ x4 + 1 ∧ x4 + 1 ≤ (2147483647 : Int)) ∧ (P5 x3_4 (x4 + 1) h2)))))))))))))))))))))
def Lp_X10_waysToEnd_5 (x0 : Nat) (x1 : Nat) (x2 : Int) (x3 : Int) (x4 : Int) (h : Hp) (Q : Int → Hp → Prop) : Prop := ∀ P5 : Int → Int → Hp → Prop, (∀ (x3 : Int) (x4 : Int) (h : Hp), BLp_X10_waysToEnd_5 x0 x1 x2 P5 x3 x4 h Q → P5 x3 x4 h) → P5 x3 x4 h
theorem Lp_X10_waysToEnd_5_ind {x0 : Nat} {x1 : Nat} {x2 : Int} {Q : Int → Hp → Prop} (I : Int → Int → Hp → Prop) (μ : Int → Int → Hp → Nat) (hs : ∀ (P5 : Int → Int → Hp → Prop) (x3 : Int) (x4 : Int) (h : Hp), I x3 x4 h → (∀ (x3' : Int) (x4' : Int) (h' : Hp), I x3' x4' h' → μ x3' x4' h' < μ x3 x4 h → P5 x3' x4' h') → BLp_X10_waysToEnd_5 x0 x1 x2 P5 x3 x4 h Q) : ∀ (x3 : Int) (x4 : Int) (h : Hp), I x3 x4 h → Lp_X10_waysToEnd_5 x0 x1 x2 x3 x4 h Q := by
  intro x3 x4 h hI P5 hP
  have key : ∀ (n : Nat) (x3 : Int) (x4 : Int) (h : Hp), I x3 x4 h → μ x3 x4 h < n → P5 x3 x4 h := by
    intro n
    induction n with
    | zero => intro x3 x4 h _ hl; exact absurd hl (Nat.not_lt_zero _)
    | succ n ih => intro x3 x4 h hi hl; exact hP x3 x4 h (hs P5 x3 x4 h hi (fun x3 x4 h' hi' hl' => ih x3 x4 h' hi' (by omega)))
  exact key _ x3 x4 h hI (Nat.lt_succ_self _)
theorem GLp_X10_waysToEnd_5 (x0 : Nat) (x1 : Nat) (x2 : Int) (x3 : Int) (x4 : Int) (h : Hp) (Q : Int → Hp → Prop) (hV : Lp_X10_waysToEnd_5 x0 x1 x2 x3 x4 h Q) : Go i_X10_waysToEnd 5 [(0, .inr (.inr x0)), (1, .inr (.inr x1)), (2, .inl x2), (3, .inl x3), (4, .inl x4)] [] h (qI Q) := by
  refine hV (fun x3 x4 h => Go i_X10_waysToEnd 5 [(0, .inr (.inr x0)), (1, .inr (.inr x1)), (2, .inl x2), (3, .inl x3), (4, .inl x4)] [] h (qI Q)) (fun x3 x4 h hV => ?_)
  unfold BLp_X10_waysToEnd_5 at hV
  have hP5 : ∀ (x3 : Int) (x4 : Int) (h : Hp), Go i_X10_waysToEnd 5 [(0, .inr (.inr x0)), (1, .inr (.inr x1)), (2, .inl x2), (3, .inl x3), (4, .inl x4)] [] h (qI Q) → Go i_X10_waysToEnd 5 [(0, .inr (.inr x0)), (1, .inr (.inr x1)), (2, .inl x2), (3, .inl x3), (4, .inl x4)] [] h (qI Q) := fun _ _ h z => z
  refine s_iload d_X10_waysToEnd_5 (ma 4 rfl) ?_
  refine s_aload_n d_X10_waysToEnd_7 rfl (ma 0 rfl) ?_
  obtain ⟨o, hV⟩ := hV
  refine f_RX10_27g rfl d_X10_waysToEnd_8 o ?_
  refine s_icmp_ge (tgt := 70) d_X10_waysToEnd_11 (by decide) (fun c => ?_) (fun c => ?_)
  · have hV := hV.1 c
    refine s_iload_n d_X10_waysToEnd_70 rfl (ma 3 rfl) ?_
    exact s_iret d_X10_waysToEnd_71 rfl rfl ⟨_, rfl, hV⟩
  · have hV := hV.2 c
    refine s_iload_n d_X10_waysToEnd_14 rfl (ma 2 rfl) ?_
    refine s_aload_n d_X10_waysToEnd_15 rfl (ma 0 rfl) ?_
    obtain ⟨o, hV⟩ := hV
    refine f_RX10_11g rfl d_X10_waysToEnd_16 o ?_
    refine s_iload d_X10_waysToEnd_19 (ma 4 rfl) ?_
    obtain ⟨o, hV⟩ := hV
    refine s_aald d_X10_waysToEnd_21 (Or.inl o.1) o.2.1 o.2.2 ?_
    obtain ⟨o, hV⟩ := hV
    refine f_RX10_31g rfl d_X10_waysToEnd_22 o ?_
    obtain ⟨o, hV⟩ := hV
    refine s_isub d_X10_waysToEnd_25 o ?_
    refine s_nmI (fun x5_1 ex5_1 => ?_)
    have hV := hV x5_1 ex5_1
    refine s_istore (lv' := [(5, .inl x5_1), (0, .inr (.inr x0)), (1, .inr (.inr x1)), (2, .inl x2), (3, .inl x3), (4, .inl x4)]) d_X10_waysToEnd_26 (Nat.le_of_ble_eq_true rfl) rfl ?_
    refine s_iload d_X10_waysToEnd_28 (ma 0 rfl) ?_
    refine s_if_lt (tgt := 64) d_X10_waysToEnd_30 (by decide) (fun c => ?_) (fun c => ?_)
    · have hV := hV.1 c
      obtain ⟨o, hV⟩ := hV
      refine s_iinc (lv' := [(4, .inl (x4 + 1)), (5, .inl x5_1), (0, .inr (.inr x0)), (1, .inr (.inr x1)), (2, .inl x2), (3, .inl x3)]) d_X10_waysToEnd_64 (ma 5 rfl) o (Nat.le_of_ble_eq_true rfl) rfl ?_
      refine s_goto (tgt := 5) d_X10_waysToEnd_67 (by decide) ?_
      refine s_pick (lv' := [(0, .inr (.inr x0)), (1, .inr (.inr x1)), (2, .inl x2), (3, .inl x3), (4, .inl (x4 + 1))]) [2, 3, 4, 5, 0] rfl ?_
      exact hP5 _ _ _ hV
    · have hV := hV.2 c
      refine s_aload_n d_X10_waysToEnd_33 rfl (ma 2 rfl) ?_
      refine s_iload d_X10_waysToEnd_34 (ma 0 rfl) ?_
      refine s_aload_n d_X10_waysToEnd_36 rfl (ma 1 rfl) ?_
      obtain ⟨o, hV⟩ := hV
      refine f_RX10_11g rfl d_X10_waysToEnd_37 o ?_
      refine s_iload d_X10_waysToEnd_40 (ma 5 rfl) ?_
      obtain ⟨o, hV⟩ := hV
      refine s_aald d_X10_waysToEnd_42 (Or.inl o.1) o.2.1 o.2.2 ?_
      obtain ⟨o, hV⟩ := hV
      refine v_RX10_46 rfl (Nat.le_of_ble_eq_true rfl) d_X10_waysToEnd_43 o (Nat.le_of_ble_eq_true rfl) hV (fun r3 h2 hV => ?_)
      refine s_if_eq (tgt := 64) d_X10_waysToEnd_46 (by decide) (fun c => ?_) (fun c => ?_)
      · have hV := hV.1 c
        obtain ⟨o, hV⟩ := hV
        refine s_iinc (lv' := [(4, .inl (x4 + 1)), (5, .inl x5_1), (0, .inr (.inr x0)), (1, .inr (.inr x1)), (2, .inl x2), (3, .inl x3)]) d_X10_waysToEnd_64 (ma 5 rfl) o (Nat.le_of_ble_eq_true rfl) rfl ?_
        refine s_goto (tgt := 5) d_X10_waysToEnd_67 (by decide) ?_
        refine s_pick (lv' := [(0, .inr (.inr x0)), (1, .inr (.inr x1)), (2, .inl x2), (3, .inl x3), (4, .inl (x4 + 1))]) [2, 3, 4, 5, 0] rfl ?_
        exact hP5 _ _ _ hV
      · have hV := hV.2 c
        refine s_ldc (n := 1000000000) d_X10_waysToEnd_49 k_RX10_50 (by decide) (okn rfl) ?_
        refine s_iload_n d_X10_waysToEnd_51 rfl (ma 4 rfl) ?_
        refine s_aload_n d_X10_waysToEnd_52 rfl (ma 1 rfl) ?_
        obtain ⟨o, hV⟩ := hV
        refine f_RX10_17g rfl d_X10_waysToEnd_53 o ?_
        refine s_iload d_X10_waysToEnd_56 (ma 0 rfl) ?_
        obtain ⟨o, hV⟩ := hV
        refine s_iald d_X10_waysToEnd_58 o.1 o.2.1 o.2.2 ?_
        obtain ⟨o, hV⟩ := hV
        refine s_iadd d_X10_waysToEnd_59 o ?_
        refine s_mmin d_X10_waysToEnd_60 mm_RX10_36 (Nat.le_of_ble_eq_true rfl) (Nat.le_of_ble_eq_true rfl) ?_
        refine s_nmI (fun x3_4 ex3_4 => ?_)
        have hV := hV x3_4 ex3_4
        refine s_istore_n (lv' := [(3, .inl x3_4), (5, .inl x5_1), (0, .inr (.inr x0)), (1, .inr (.inr x1)), (2, .inl x2), (4, .inl x4)]) d_X10_waysToEnd_63 rfl (Nat.le_of_ble_eq_true rfl) rfl ?_
        obtain ⟨o, hV⟩ := hV
        refine s_iinc (lv' := [(4, .inl (x4 + 1)), (3, .inl x3_4), (5, .inl x5_1), (0, .inr (.inr x0)), (1, .inr (.inr x1)), (2, .inl x2)]) d_X10_waysToEnd_64 (ma 5 rfl) o (Nat.le_of_ble_eq_true rfl) rfl ?_
        refine s_goto (tgt := 5) d_X10_waysToEnd_67 (by decide) ?_
        refine s_pick (lv' := [(0, .inr (.inr x0)), (1, .inr (.inr x1)), (2, .inl x2), (3, .inl x3_4), (4, .inl (x4 + 1))]) [3, 4, 5, 1, 0] rfl ?_
        exact hP5 _ _ _ hV
def V_X10_waysToEnd (x0 : Nat) (x1 : Nat) (x2 : Int) (h : Hp) (Q : Int → Hp → Prop) : Prop :=
  Lp_X10_waysToEnd_5 x0 x1 x2 0 0 h Q
theorem G_X10_waysToEnd {x0 : Nat} {x1 : Nat} {x2 : Int} (h : Hp) (Q : Int → Hp → Prop) (hV : V_X10_waysToEnd x0 x1 x2 h Q) : C_X10_waysToEnd x0 x1 x2 h Q := by
  unfold V_X10_waysToEnd at hV
  show Go i_X10_waysToEnd 0 [(0, .inr (.inr x0)), (1, .inr (.inr x1)), (2, .inl x2)] [] h (qI Q)
  refine s_iconst d_X10_waysToEnd_0 (okn rfl) ?_
  refine s_istore_n (lv' := [(3, .inl 0), (0, .inr (.inr x0)), (1, .inr (.inr x1)), (2, .inl x2)]) d_X10_waysToEnd_1 rfl (Nat.le_of_ble_eq_true rfl) rfl ?_
  refine s_iconst d_X10_waysToEnd_2 (okn rfl) ?_
  refine s_istore (lv' := [(4, .inl 0), (3, .inl 0), (0, .inr (.inr x0)), (1, .inr (.inr x1)), (2, .inl x2)]) d_X10_waysToEnd_3 (Nat.le_of_ble_eq_true rfl) rfl ?_
  refine s_pick (lv' := [(0, .inr (.inr x0)), (1, .inr (.inr x1)), (2, .inl x2), (3, .inl 0), (4, .inl 0)]) [2, 3, 4, 1, 0] rfl ?_
  exact GLp_X10_waysToEnd_5 _ _ _ _ _ _ _ hV

theorem d_X10_fewestChanges_0 : decode i_X10_fewestChanges.2.1 0 = .ok (.aload_n 2, 1) := by decide +kernel
theorem d_X10_fewestChanges_1 : decode i_X10_fewestChanges.2.1 1 = .ok (.getfield 31, 3) := by decide +kernel
theorem d_X10_fewestChanges_4 : decode i_X10_fewestChanges.2.1 4 = .ok (.bipush 8, 2) := by decide +kernel
theorem d_X10_fewestChanges_6 : decode i_X10_fewestChanges.2.1 6 = .ok (.invokestatic 36, 3) := by decide +kernel
theorem d_X10_fewestChanges_9 : decode i_X10_fewestChanges.2.1 9 = .ok (.istore_n 3, 1) := by decide +kernel
theorem d_X10_fewestChanges_10 : decode i_X10_fewestChanges.2.1 10 = .ok (.iconst 0, 1) := by decide +kernel
theorem d_X10_fewestChanges_11 : decode i_X10_fewestChanges.2.1 11 = .ok (.istore 4, 2) := by decide +kernel
theorem d_X10_fewestChanges_13 : decode i_X10_fewestChanges.2.1 13 = .ok (.iload 4, 2) := by decide +kernel
theorem d_X10_fewestChanges_15 : decode i_X10_fewestChanges.2.1 15 = .ok (.iload_n 3, 1) := by decide +kernel
theorem d_X10_fewestChanges_16 : decode i_X10_fewestChanges.2.1 16 = .ok (.if_icmp .gt 18, 3) := by decide +kernel
theorem d_X10_fewestChanges_19 : decode i_X10_fewestChanges.2.1 19 = .ok (.aload_n 0, 1) := by decide +kernel
theorem d_X10_fewestChanges_20 : decode i_X10_fewestChanges.2.1 20 = .ok (.getfield 21, 3) := by decide +kernel
theorem d_X10_fewestChanges_23 : decode i_X10_fewestChanges.2.1 23 = .ok (.iload 4, 2) := by decide +kernel
theorem d_X10_fewestChanges_25 : decode i_X10_fewestChanges.2.1 25 = .ok (.iload 4, 2) := by decide +kernel
theorem d_X10_fewestChanges_27 : decode i_X10_fewestChanges.2.1 27 = .ok (.iastore, 1) := by decide +kernel
theorem d_X10_fewestChanges_28 : decode i_X10_fewestChanges.2.1 28 = .ok (.iinc 4 1, 3) := by decide +kernel
theorem d_X10_fewestChanges_31 : decode i_X10_fewestChanges.2.1 31 = .ok (.goto (-18), 3) := by decide +kernel
theorem d_X10_fewestChanges_34 : decode i_X10_fewestChanges.2.1 34 = .ok (.iconst 0, 1) := by decide +kernel
theorem d_X10_fewestChanges_35 : decode i_X10_fewestChanges.2.1 35 = .ok (.istore 4, 2) := by decide +kernel
theorem d_X10_fewestChanges_37 : decode i_X10_fewestChanges.2.1 37 = .ok (.iload 4, 2) := by decide +kernel
theorem d_X10_fewestChanges_39 : decode i_X10_fewestChanges.2.1 39 = .ok (.aload_n 1, 1) := by decide +kernel
theorem d_X10_fewestChanges_40 : decode i_X10_fewestChanges.2.1 40 = .ok (.getfield 31, 3) := by decide +kernel
theorem d_X10_fewestChanges_43 : decode i_X10_fewestChanges.2.1 43 = .ok (.if_icmp .ge 21, 3) := by decide +kernel
theorem d_X10_fewestChanges_46 : decode i_X10_fewestChanges.2.1 46 = .ok (.aload_n 0, 1) := by decide +kernel
theorem d_X10_fewestChanges_47 : decode i_X10_fewestChanges.2.1 47 = .ok (.aload_n 1, 1) := by decide +kernel
theorem d_X10_fewestChanges_48 : decode i_X10_fewestChanges.2.1 48 = .ok (.iload 4, 2) := by decide +kernel
theorem d_X10_fewestChanges_50 : decode i_X10_fewestChanges.2.1 50 = .ok (.invokevirtual 51, 3) := by decide +kernel
theorem d_X10_fewestChanges_53 : decode i_X10_fewestChanges.2.1 53 = .ok (.aload_n 2, 1) := by decide +kernel
theorem d_X10_fewestChanges_54 : decode i_X10_fewestChanges.2.1 54 = .ok (.iload_n 3, 1) := by decide +kernel
theorem d_X10_fewestChanges_55 : decode i_X10_fewestChanges.2.1 55 = .ok (.invokevirtual 55, 3) := by decide +kernel
theorem d_X10_fewestChanges_58 : decode i_X10_fewestChanges.2.1 58 = .ok (.iinc 4 1, 3) := by decide +kernel
theorem d_X10_fewestChanges_61 : decode i_X10_fewestChanges.2.1 61 = .ok (.goto (-24), 3) := by decide +kernel
theorem d_X10_fewestChanges_64 : decode i_X10_fewestChanges.2.1 64 = .ok (.aload_n 0, 1) := by decide +kernel
theorem d_X10_fewestChanges_65 : decode i_X10_fewestChanges.2.1 65 = .ok (.getfield 21, 3) := by decide +kernel
theorem d_X10_fewestChanges_68 : decode i_X10_fewestChanges.2.1 68 = .ok (.iload_n 3, 1) := by decide +kernel
theorem d_X10_fewestChanges_69 : decode i_X10_fewestChanges.2.1 69 = .ok (.iaload, 1) := by decide +kernel
theorem d_X10_fewestChanges_70 : decode i_X10_fewestChanges.2.1 70 = .ok (.ireturn, 1) := by decide +kernel
def BLp_X10_fewestChanges_37 (x0 : Nat) (x1 : Nat) (x2 : Nat) (x3 : Int) (P37 : Int → Hp → Prop) (x4 : Int) (h : Hp) (Q : Int → Hp → Prop) : Prop :=
  hK h x1 = 2 ∧ ((hI h x1 1 ≤ x4 → (hK h x0 = 9 ∧ ((hK h (hR h x0 2) = 12 ∧ (0 : Int) ≤ x3 ∧ x3 < hL h (hR h x0 2)) ∧ (Q (hI h (hR h x0 2) x3) h)))) ∧ (¬ hI h x1 1 ≤ x4 → (hK h x1 = 2 ∧ C_X2_get x1 x4 h (fun r2 h1 => (hK h1 x0 = 9 ∧ C_X10_takeIn x0 r2 x2 x3 h1 (fun h3 => (((-2147483648 : Int) ≤ x4 + 1 ∧ x4 + 1 ≤ (2147483647 : Int)) ∧ (P37 (x4 + 1) h3))))))))
def Lp_X10_fewestChanges_37 (x0 : Nat) (x1 : Nat) (x2 : Nat) (x3 : Int) (x4 : Int) (h : Hp) (Q : Int → Hp → Prop) : Prop := ∀ P37 : Int → Hp → Prop, (∀ (x4 : Int) (h : Hp), BLp_X10_fewestChanges_37 x0 x1 x2 x3 P37 x4 h Q → P37 x4 h) → P37 x4 h
theorem Lp_X10_fewestChanges_37_ind {x0 : Nat} {x1 : Nat} {x2 : Nat} {x3 : Int} {Q : Int → Hp → Prop} (I : Int → Hp → Prop) (μ : Int → Hp → Nat) (hs : ∀ (P37 : Int → Hp → Prop) (x4 : Int) (h : Hp), I x4 h → (∀ (x4' : Int) (h' : Hp), I x4' h' → μ x4' h' < μ x4 h → P37 x4' h') → BLp_X10_fewestChanges_37 x0 x1 x2 x3 P37 x4 h Q) : ∀ (x4 : Int) (h : Hp), I x4 h → Lp_X10_fewestChanges_37 x0 x1 x2 x3 x4 h Q := by
  intro x4 h hI P37 hP
  have key : ∀ (n : Nat) (x4 : Int) (h : Hp), I x4 h → μ x4 h < n → P37 x4 h := by
    intro n
    induction n with
    | zero => intro x4 h _ hl; exact absurd hl (Nat.not_lt_zero _)
    | succ n ih => intro x4 h hi hl; exact hP x4 h (hs P37 x4 h hi (fun x4 h' hi' hl' => ih x4 h' hi' (by omega)))
  exact key _ x4 h hI (Nat.lt_succ_self _)
theorem GLp_X10_fewestChanges_37 (x0 : Nat) (x1 : Nat) (x2 : Nat) (x3 : Int) (x4 : Int) (h : Hp) (Q : Int → Hp → Prop) (hV : Lp_X10_fewestChanges_37 x0 x1 x2 x3 x4 h Q) : Go i_X10_fewestChanges 37 [(0, .inr (.inr x0)), (1, .inr (.inr x1)), (2, .inr (.inr x2)), (3, .inl x3), (4, .inl x4)] [] h (qI Q) := by
  refine hV (fun x4 h => Go i_X10_fewestChanges 37 [(0, .inr (.inr x0)), (1, .inr (.inr x1)), (2, .inr (.inr x2)), (3, .inl x3), (4, .inl x4)] [] h (qI Q)) (fun x4 h hV => ?_)
  unfold BLp_X10_fewestChanges_37 at hV
  have hP37 : ∀ (x4 : Int) (h : Hp), Go i_X10_fewestChanges 37 [(0, .inr (.inr x0)), (1, .inr (.inr x1)), (2, .inr (.inr x2)), (3, .inl x3), (4, .inl x4)] [] h (qI Q) → Go i_X10_fewestChanges 37 [(0, .inr (.inr x0)), (1, .inr (.inr x1)), (2, .inr (.inr x2)), (3, .inl x3), (4, .inl x4)] [] h (qI Q) := fun _ h z => z
  refine s_iload d_X10_fewestChanges_37 (ma 4 rfl) ?_
  refine s_aload_n d_X10_fewestChanges_39 rfl (ma 1 rfl) ?_
  obtain ⟨o, hV⟩ := hV
  refine f_RX10_31g rfl d_X10_fewestChanges_40 o ?_
  refine s_icmp_ge (tgt := 64) d_X10_fewestChanges_43 (by decide) (fun c => ?_) (fun c => ?_)
  · have hV := hV.1 c
    refine s_aload_n d_X10_fewestChanges_64 rfl (ma 0 rfl) ?_
    obtain ⟨o, hV⟩ := hV
    refine f_RX10_21g rfl d_X10_fewestChanges_65 o ?_
    refine s_iload_n d_X10_fewestChanges_68 rfl (ma 3 rfl) ?_
    obtain ⟨o, hV⟩ := hV
    refine s_iald d_X10_fewestChanges_69 o.1 o.2.1 o.2.2 ?_
    exact s_iret d_X10_fewestChanges_70 rfl rfl ⟨_, rfl, hV⟩
  · have hV := hV.2 c
    refine s_aload_n d_X10_fewestChanges_46 rfl (ma 0 rfl) ?_
    refine s_aload_n d_X10_fewestChanges_47 rfl (ma 1 rfl) ?_
    refine s_iload d_X10_fewestChanges_48 (ma 4 rfl) ?_
    obtain ⟨o, hV⟩ := hV
    refine v_RX10_51 rfl (Nat.le_of_ble_eq_true rfl) d_X10_fewestChanges_50 o (Nat.le_of_ble_eq_true rfl) hV (fun r2 h1 hV => ?_)
    refine s_aload_n d_X10_fewestChanges_53 rfl (ma 2 rfl) ?_
    refine s_iload_n d_X10_fewestChanges_54 rfl (ma 3 rfl) ?_
    obtain ⟨o, hV⟩ := hV
    refine v_RX10_55 rfl (Nat.le_of_ble_eq_true rfl) d_X10_fewestChanges_55 o (Nat.le_of_ble_eq_true rfl) hV (fun h3 hV => ?_)
    obtain ⟨o, hV⟩ := hV
    refine s_iinc (lv' := [(4, .inl (x4 + 1)), (0, .inr (.inr x0)), (1, .inr (.inr x1)), (2, .inr (.inr x2)), (3, .inl x3)]) d_X10_fewestChanges_58 (ma 4 rfl) o (Nat.le_of_ble_eq_true rfl) rfl ?_
    refine s_goto (tgt := 37) d_X10_fewestChanges_61 (by decide) ?_
    refine s_pick (lv' := [(0, .inr (.inr x0)), (1, .inr (.inr x1)), (2, .inr (.inr x2)), (3, .inl x3), (4, .inl (x4 + 1))]) [1, 2, 3, 4, 0] rfl ?_
    exact hP37 _ _ hV
def BLp_X10_fewestChanges_13 (x0 : Nat) (x1 : Nat) (x2 : Nat) (x3 : Int) (P13 : Int → Hp → Prop) (x4 : Int) (h : Hp) (Q : Int → Hp → Prop) : Prop :=
  (x3 < x4 → (Lp_X10_fewestChanges_37 x0 x1 x2 x3 0 h Q)) ∧ (¬ x3 < x4 → (hK h x0 = 9 ∧ ((hK h (hR h x0 2) = 12 ∧ (0 : Int) ≤ x4 ∧ x4 < hL h (hR h x0 2)) ∧ ∀ h1 : Hp, h1 = wI h (hR h x0 2) x4 x4 → (((-2147483648 : Int) ≤ x4 + 1 ∧ x4 + 1 ≤ (2147483647 : Int)) ∧ (P13 (x4 + 1) h1)))))
def Lp_X10_fewestChanges_13 (x0 : Nat) (x1 : Nat) (x2 : Nat) (x3 : Int) (x4 : Int) (h : Hp) (Q : Int → Hp → Prop) : Prop := ∀ P13 : Int → Hp → Prop, (∀ (x4 : Int) (h : Hp), BLp_X10_fewestChanges_13 x0 x1 x2 x3 P13 x4 h Q → P13 x4 h) → P13 x4 h
theorem Lp_X10_fewestChanges_13_ind {x0 : Nat} {x1 : Nat} {x2 : Nat} {x3 : Int} {Q : Int → Hp → Prop} (I : Int → Hp → Prop) (μ : Int → Hp → Nat) (hs : ∀ (P13 : Int → Hp → Prop) (x4 : Int) (h : Hp), I x4 h → (∀ (x4' : Int) (h' : Hp), I x4' h' → μ x4' h' < μ x4 h → P13 x4' h') → BLp_X10_fewestChanges_13 x0 x1 x2 x3 P13 x4 h Q) : ∀ (x4 : Int) (h : Hp), I x4 h → Lp_X10_fewestChanges_13 x0 x1 x2 x3 x4 h Q := by
  intro x4 h hI P13 hP
  have key : ∀ (n : Nat) (x4 : Int) (h : Hp), I x4 h → μ x4 h < n → P13 x4 h := by
    intro n
    induction n with
    | zero => intro x4 h _ hl; exact absurd hl (Nat.not_lt_zero _)
    | succ n ih => intro x4 h hi hl; exact hP x4 h (hs P13 x4 h hi (fun x4 h' hi' hl' => ih x4 h' hi' (by omega)))
  exact key _ x4 h hI (Nat.lt_succ_self _)
theorem GLp_X10_fewestChanges_13 (x0 : Nat) (x1 : Nat) (x2 : Nat) (x3 : Int) (x4 : Int) (h : Hp) (Q : Int → Hp → Prop) (hV : Lp_X10_fewestChanges_13 x0 x1 x2 x3 x4 h Q) : Go i_X10_fewestChanges 13 [(0, .inr (.inr x0)), (1, .inr (.inr x1)), (2, .inr (.inr x2)), (3, .inl x3), (4, .inl x4)] [] h (qI Q) := by
  refine hV (fun x4 h => Go i_X10_fewestChanges 13 [(0, .inr (.inr x0)), (1, .inr (.inr x1)), (2, .inr (.inr x2)), (3, .inl x3), (4, .inl x4)] [] h (qI Q)) (fun x4 h hV => ?_)
  unfold BLp_X10_fewestChanges_13 at hV
  have hP13 : ∀ (x4 : Int) (h : Hp), Go i_X10_fewestChanges 13 [(0, .inr (.inr x0)), (1, .inr (.inr x1)), (2, .inr (.inr x2)), (3, .inl x3), (4, .inl x4)] [] h (qI Q) → Go i_X10_fewestChanges 13 [(0, .inr (.inr x0)), (1, .inr (.inr x1)), (2, .inr (.inr x2)), (3, .inl x3), (4, .inl x4)] [] h (qI Q) := fun _ h z => z
  refine s_iload d_X10_fewestChanges_13 (ma 4 rfl) ?_
  refine s_iload_n d_X10_fewestChanges_15 rfl (ma 3 rfl) ?_
  refine s_icmp_gt (tgt := 34) d_X10_fewestChanges_16 (by decide) (fun c => ?_) (fun c => ?_)
  · have hV := hV.1 c
    refine s_iconst d_X10_fewestChanges_34 (okn rfl) ?_
    refine s_istore (lv' := [(4, .inl 0), (0, .inr (.inr x0)), (1, .inr (.inr x1)), (2, .inr (.inr x2)), (3, .inl x3)]) d_X10_fewestChanges_35 (Nat.le_of_ble_eq_true rfl) rfl ?_
    refine s_pick (lv' := [(0, .inr (.inr x0)), (1, .inr (.inr x1)), (2, .inr (.inr x2)), (3, .inl x3), (4, .inl 0)]) [1, 2, 3, 4, 0] rfl ?_
    exact GLp_X10_fewestChanges_37 _ _ _ _ _ _ _ hV
  · have hV := hV.2 c
    refine s_aload_n d_X10_fewestChanges_19 rfl (ma 0 rfl) ?_
    obtain ⟨o, hV⟩ := hV
    refine f_RX10_21g rfl d_X10_fewestChanges_20 o ?_
    refine s_iload d_X10_fewestChanges_23 (ma 4 rfl) ?_
    refine s_iload d_X10_fewestChanges_25 (ma 4 rfl) ?_
    obtain ⟨o, hV⟩ := hV
    refine s_iast d_X10_fewestChanges_27 o.1 o.2.1 o.2.2 ?_
    refine s_nmH (fun h1 eh1 => ?_)
    have hV := hV h1 eh1
    obtain ⟨o, hV⟩ := hV
    refine s_iinc (lv' := [(4, .inl (x4 + 1)), (0, .inr (.inr x0)), (1, .inr (.inr x1)), (2, .inr (.inr x2)), (3, .inl x3)]) d_X10_fewestChanges_28 (ma 4 rfl) o (Nat.le_of_ble_eq_true rfl) rfl ?_
    refine s_goto (tgt := 13) d_X10_fewestChanges_31 (by decide) ?_
    refine s_pick (lv' := [(0, .inr (.inr x0)), (1, .inr (.inr x1)), (2, .inr (.inr x2)), (3, .inl x3), (4, .inl (x4 + 1))]) [1, 2, 3, 4, 0] rfl ?_
    exact hP13 _ _ hV
def V_X10_fewestChanges (x0 : Nat) (x1 : Nat) (x2 : Nat) (h : Hp) (Q : Int → Hp → Prop) : Prop :=
  hK h x2 = 2 ∧ (∀ x3_1 : Int, x3_1 = min (hI h x2 1) 8 → (Lp_X10_fewestChanges_13 x0 x1 x2 x3_1 0 h Q))
theorem G_X10_fewestChanges {x0 : Nat} {x1 : Nat} {x2 : Nat} (h : Hp) (Q : Int → Hp → Prop) (hV : V_X10_fewestChanges x0 x1 x2 h Q) : C_X10_fewestChanges x0 x1 x2 h Q := by
  unfold V_X10_fewestChanges at hV
  show Go i_X10_fewestChanges 0 [(0, .inr (.inr x0)), (1, .inr (.inr x1)), (2, .inr (.inr x2))] [] h (qI Q)
  refine s_aload_n d_X10_fewestChanges_0 rfl (ma 2 rfl) ?_
  obtain ⟨o, hV⟩ := hV
  refine f_RX10_31g rfl d_X10_fewestChanges_1 o ?_
  refine s_bipush d_X10_fewestChanges_4 (by decide) (okn rfl) ?_
  refine s_mmin d_X10_fewestChanges_6 mm_RX10_36 (Nat.le_of_ble_eq_true rfl) (Nat.le_of_ble_eq_true rfl) ?_
  refine s_nmI (fun x3_1 ex3_1 => ?_)
  have hV := hV x3_1 ex3_1
  refine s_istore_n (lv' := [(3, .inl x3_1), (0, .inr (.inr x0)), (1, .inr (.inr x1)), (2, .inr (.inr x2))]) d_X10_fewestChanges_9 rfl (Nat.le_of_ble_eq_true rfl) rfl ?_
  refine s_iconst d_X10_fewestChanges_10 (okn rfl) ?_
  refine s_istore (lv' := [(4, .inl 0), (3, .inl x3_1), (0, .inr (.inr x0)), (1, .inr (.inr x1)), (2, .inr (.inr x2))]) d_X10_fewestChanges_11 (Nat.le_of_ble_eq_true rfl) rfl ?_
  refine s_pick (lv' := [(0, .inr (.inr x0)), (1, .inr (.inr x1)), (2, .inr (.inr x2)), (3, .inl x3_1), (4, .inl 0)]) [2, 3, 4, 1, 0] rfl ?_
  exact GLp_X10_fewestChanges_13 _ _ _ _ _ _ _ hV

theorem d_X10_takeIn_0 : decode i_X10_takeIn.2.1 0 = .ok (.aload_n 0, 1) := by decide +kernel
theorem d_X10_takeIn_1 : decode i_X10_takeIn.2.1 1 = .ok (.getfield 21, 3) := by decide +kernel
theorem d_X10_takeIn_4 : decode i_X10_takeIn.2.1 4 = .ok (.iconst 0, 1) := by decide +kernel
theorem d_X10_takeIn_5 : decode i_X10_takeIn.2.1 5 = .ok (.iaload, 1) := by decide +kernel
theorem d_X10_takeIn_6 : decode i_X10_takeIn.2.1 6 = .ok (.istore 4, 2) := by decide +kernel
theorem d_X10_takeIn_8 : decode i_X10_takeIn.2.1 8 = .ok (.aload_n 0, 1) := by decide +kernel
theorem d_X10_takeIn_9 : decode i_X10_takeIn.2.1 9 = .ok (.getfield 21, 3) := by decide +kernel
theorem d_X10_takeIn_12 : decode i_X10_takeIn.2.1 12 = .ok (.iconst 0, 1) := by decide +kernel
theorem d_X10_takeIn_13 : decode i_X10_takeIn.2.1 13 = .ok (.dup2, 1) := by decide +kernel
theorem d_X10_takeIn_14 : decode i_X10_takeIn.2.1 14 = .ok (.iaload, 1) := by decide +kernel
theorem d_X10_takeIn_15 : decode i_X10_takeIn.2.1 15 = .ok (.iconst 1, 1) := by decide +kernel
theorem d_X10_takeIn_16 : decode i_X10_takeIn.2.1 16 = .ok (.iadd, 1) := by decide +kernel
theorem d_X10_takeIn_17 : decode i_X10_takeIn.2.1 17 = .ok (.iastore, 1) := by decide +kernel
theorem d_X10_takeIn_18 : decode i_X10_takeIn.2.1 18 = .ok (.iconst 1, 1) := by decide +kernel
theorem d_X10_takeIn_19 : decode i_X10_takeIn.2.1 19 = .ok (.istore 5, 2) := by decide +kernel
theorem d_X10_takeIn_21 : decode i_X10_takeIn.2.1 21 = .ok (.iload 5, 2) := by decide +kernel
theorem d_X10_takeIn_23 : decode i_X10_takeIn.2.1 23 = .ok (.iload_n 3, 1) := by decide +kernel
theorem d_X10_takeIn_24 : decode i_X10_takeIn.2.1 24 = .ok (.if_icmp .gt 73, 3) := by decide +kernel
theorem d_X10_takeIn_27 : decode i_X10_takeIn.2.1 27 = .ok (.iload 4, 2) := by decide +kernel
theorem d_X10_takeIn_29 : decode i_X10_takeIn.2.1 29 = .ok (.aload_n 2, 1) := by decide +kernel
theorem d_X10_takeIn_30 : decode i_X10_takeIn.2.1 30 = .ok (.iload 5, 2) := by decide +kernel
theorem d_X10_takeIn_32 : decode i_X10_takeIn.2.1 32 = .ok (.iconst 1, 1) := by decide +kernel
theorem d_X10_takeIn_33 : decode i_X10_takeIn.2.1 33 = .ok (.isub, 1) := by decide +kernel
theorem d_X10_takeIn_34 : decode i_X10_takeIn.2.1 34 = .ok (.invokevirtual 51, 3) := by decide +kernel
theorem d_X10_takeIn_37 : decode i_X10_takeIn.2.1 37 = .ok (.iload_n 1, 1) := by decide +kernel
theorem d_X10_takeIn_38 : decode i_X10_takeIn.2.1 38 = .ok (.if_icmp .ne 7, 3) := by decide +kernel
theorem d_X10_takeIn_41 : decode i_X10_takeIn.2.1 41 = .ok (.iconst 0, 1) := by decide +kernel
theorem d_X10_takeIn_42 : decode i_X10_takeIn.2.1 42 = .ok (.goto 4, 3) := by decide +kernel
theorem d_X10_takeIn_45 : decode i_X10_takeIn.2.1 45 = .ok (.iconst 1, 1) := by decide +kernel
theorem d_X10_takeIn_46 : decode i_X10_takeIn.2.1 46 = .ok (.iadd, 1) := by decide +kernel
theorem d_X10_takeIn_47 : decode i_X10_takeIn.2.1 47 = .ok (.istore 6, 2) := by decide +kernel
theorem d_X10_takeIn_49 : decode i_X10_takeIn.2.1 49 = .ok (.aload_n 0, 1) := by decide +kernel
theorem d_X10_takeIn_50 : decode i_X10_takeIn.2.1 50 = .ok (.getfield 21, 3) := by decide +kernel
theorem d_X10_takeIn_53 : decode i_X10_takeIn.2.1 53 = .ok (.iload 5, 2) := by decide +kernel
theorem d_X10_takeIn_55 : decode i_X10_takeIn.2.1 55 = .ok (.iaload, 1) := by decide +kernel
theorem d_X10_takeIn_56 : decode i_X10_takeIn.2.1 56 = .ok (.istore 4, 2) := by decide +kernel
theorem d_X10_takeIn_58 : decode i_X10_takeIn.2.1 58 = .ok (.aload_n 0, 1) := by decide +kernel
theorem d_X10_takeIn_59 : decode i_X10_takeIn.2.1 59 = .ok (.getfield 21, 3) := by decide +kernel
theorem d_X10_takeIn_62 : decode i_X10_takeIn.2.1 62 = .ok (.iload 5, 2) := by decide +kernel
theorem d_X10_takeIn_64 : decode i_X10_takeIn.2.1 64 = .ok (.iload 6, 2) := by decide +kernel
theorem d_X10_takeIn_66 : decode i_X10_takeIn.2.1 66 = .ok (.aload_n 0, 1) := by decide +kernel
theorem d_X10_takeIn_67 : decode i_X10_takeIn.2.1 67 = .ok (.getfield 21, 3) := by decide +kernel
theorem d_X10_takeIn_70 : decode i_X10_takeIn.2.1 70 = .ok (.iload 5, 2) := by decide +kernel
theorem d_X10_takeIn_72 : decode i_X10_takeIn.2.1 72 = .ok (.iaload, 1) := by decide +kernel
theorem d_X10_takeIn_73 : decode i_X10_takeIn.2.1 73 = .ok (.aload_n 0, 1) := by decide +kernel
theorem d_X10_takeIn_74 : decode i_X10_takeIn.2.1 74 = .ok (.getfield 21, 3) := by decide +kernel
theorem d_X10_takeIn_77 : decode i_X10_takeIn.2.1 77 = .ok (.iload 5, 2) := by decide +kernel
theorem d_X10_takeIn_79 : decode i_X10_takeIn.2.1 79 = .ok (.iconst 1, 1) := by decide +kernel
theorem d_X10_takeIn_80 : decode i_X10_takeIn.2.1 80 = .ok (.isub, 1) := by decide +kernel
theorem d_X10_takeIn_81 : decode i_X10_takeIn.2.1 81 = .ok (.iaload, 1) := by decide +kernel
theorem d_X10_takeIn_82 : decode i_X10_takeIn.2.1 82 = .ok (.invokestatic 36, 3) := by decide +kernel
theorem d_X10_takeIn_85 : decode i_X10_takeIn.2.1 85 = .ok (.iconst 1, 1) := by decide +kernel
theorem d_X10_takeIn_86 : decode i_X10_takeIn.2.1 86 = .ok (.iadd, 1) := by decide +kernel
theorem d_X10_takeIn_87 : decode i_X10_takeIn.2.1 87 = .ok (.invokestatic 36, 3) := by decide +kernel
theorem d_X10_takeIn_90 : decode i_X10_takeIn.2.1 90 = .ok (.iastore, 1) := by decide +kernel
theorem d_X10_takeIn_91 : decode i_X10_takeIn.2.1 91 = .ok (.iinc 5 1, 3) := by decide +kernel
theorem d_X10_takeIn_94 : decode i_X10_takeIn.2.1 94 = .ok (.goto (-73), 3) := by decide +kernel
theorem d_X10_takeIn_97 : decode i_X10_takeIn.2.1 97 = .ok (.return_, 1) := by decide +kernel
def J_X10_takeIn_46 (P21 : Int → Int → Hp → Prop) (x0 : Nat) (x1 : Int) (x2 : Nat) (x3 : Int) (x5 : Int) (y0 : Int) (y1 : Int) (h : Hp) (Q : Hp → Prop) : Prop :=
  ((-2147483648 : Int) ≤ y1 + y0 ∧ y1 + y0 ≤ (2147483647 : Int)) ∧ (∀ x6_1 : Int, x6_1 = y1 + y0 → (hK h x0 = 9 ∧ ((hK h (hR h x0 2) = 12 ∧ (0 : Int) ≤ x5 ∧ x5 < hL h (hR h x0 2)) ∧ (∀ x4_2 : Int, x4_2 = hI h (hR h x0 2) x5 → (hK h x0 = 9 ∧ (hK h x0 = 9 ∧ ((hK h (hR h x0 2) = 12 ∧ (0 : Int) ≤ x5 ∧ x5 < hL h (hR h x0 2)) ∧ (hK h x0 = 9 ∧ (((-2147483648 : Int) ≤ x5 - 1 ∧ x5 - 1 ≤ (2147483647 : Int)) ∧ ((hK h (hR h x0 2) = 12 ∧ (0 : Int) ≤ x5 - 1 ∧ x5 - 1 < hL h (hR h x0 2)) ∧ (((-2147483648 : Int) ≤ (min (hI h (hR h x0 2) x5) (hI h (hR h x0 2) (x5 - 1))) + 1 ∧ (min (hI h (hR h x0 2) x5) (hI h (hR h x0 2) (x5 - 1))) + 1 ≤ (2147483647 : Int)) ∧ ((hK h (hR h x0 2) = 12 ∧ (0 : Int) ≤ x5 ∧ x5 < hL h (hR h x0 2)) ∧ ∀ h3 : Hp, h3 = wI h (hR h x0 2) x5 (min x6_1 ((min (hI h (hR h x0 2) x5) (hI h (hR h x0 2) (x5 - 1))) + 1)) → (((-2147483648 : Int) ≤ x5 + 1 ∧ x5 + 1 ≤ (2147483647 : Int)) ∧ (P21 x4_2 (x5 + 1) h3))))))))))))))
theorem GJ_X10_takeIn_46 {P21 : Int → Int → Hp → Prop} (x0 : Nat) (x1 : Int) (x2 : Nat) (x3 : Int) (x5 : Int) (y0 : Int) (y1 : Int) (h : Hp) (Q : Hp → Prop) (hP21 : ∀ (m4 : Int) (m5 : Int) (h : Hp), P21 m4 m5 h → Go i_X10_takeIn 21 [(0, .inr (.inr x0)), (1, .inl x1), (2, .inr (.inr x2)), (3, .inl x3), (4, .inl m4), (5, .inl m5)] [] h (qV Q)) (hV : J_X10_takeIn_46 P21 x0 x1 x2 x3 x5 y0 y1 h Q) : Go i_X10_takeIn 46 [(0, .inr (.inr x0)), (1, .inl x1), (2, .inr (.inr x2)), (3, .inl x3), (5, .inl x5)] [.inl y0, .inl y1] h (qV Q) := by
  unfold J_X10_takeIn_46 at hV
  obtain ⟨o, hV⟩ := hV
  refine s_iadd d_X10_takeIn_46 o ?_
  refine s_nmI (fun x6_1 ex6_1 => ?_)
  have hV := hV x6_1 ex6_1
  refine s_istore (lv' := [(6, .inl x6_1), (0, .inr (.inr x0)), (1, .inl x1), (2, .inr (.inr x2)), (3, .inl x3), (5, .inl x5)]) d_X10_takeIn_47 (Nat.le_of_ble_eq_true rfl) rfl ?_
  refine s_aload_n d_X10_takeIn_49 rfl (ma 1 rfl) ?_
  obtain ⟨o, hV⟩ := hV
  refine f_RX10_21g rfl d_X10_takeIn_50 o ?_
  refine s_iload d_X10_takeIn_53 (ma 5 rfl) ?_
  obtain ⟨o, hV⟩ := hV
  refine s_iald d_X10_takeIn_55 o.1 o.2.1 o.2.2 ?_
  refine s_nmI (fun x4_2 ex4_2 => ?_)
  have hV := hV x4_2 ex4_2
  refine s_istore (lv' := [(4, .inl x4_2), (6, .inl x6_1), (0, .inr (.inr x0)), (1, .inl x1), (2, .inr (.inr x2)), (3, .inl x3), (5, .inl x5)]) d_X10_takeIn_56 (Nat.le_of_ble_eq_true rfl) rfl ?_
  refine s_aload_n d_X10_takeIn_58 rfl (ma 2 rfl) ?_
  obtain ⟨o, hV⟩ := hV
  refine f_RX10_21g rfl d_X10_takeIn_59 o ?_
  refine s_iload d_X10_takeIn_62 (ma 6 rfl) ?_
  refine s_iload d_X10_takeIn_64 (ma 1 rfl) ?_
  refine s_aload_n d_X10_takeIn_66 rfl (ma 2 rfl) ?_
  obtain ⟨o, hV⟩ := hV
  refine f_RX10_21g rfl d_X10_takeIn_67 o ?_
  refine s_iload d_X10_takeIn_70 (ma 6 rfl) ?_
  obtain ⟨o, hV⟩ := hV
  refine s_iald d_X10_takeIn_72 o.1 o.2.1 o.2.2 ?_
  refine s_aload_n d_X10_takeIn_73 rfl (ma 2 rfl) ?_
  obtain ⟨o, hV⟩ := hV
  refine f_RX10_21g rfl d_X10_takeIn_74 o ?_
  refine s_iload d_X10_takeIn_77 (ma 6 rfl) ?_
  refine s_iconst d_X10_takeIn_79 (okn rfl) ?_
  obtain ⟨o, hV⟩ := hV
  refine s_isub d_X10_takeIn_80 o ?_
  obtain ⟨o, hV⟩ := hV
  refine s_iald d_X10_takeIn_81 o.1 o.2.1 o.2.2 ?_
  refine s_mmin d_X10_takeIn_82 mm_RX10_36 (Nat.le_of_ble_eq_true rfl) (Nat.le_of_ble_eq_true rfl) ?_
  refine s_iconst d_X10_takeIn_85 (okn rfl) ?_
  obtain ⟨o, hV⟩ := hV
  refine s_iadd d_X10_takeIn_86 o ?_
  refine s_mmin d_X10_takeIn_87 mm_RX10_36 (Nat.le_of_ble_eq_true rfl) (Nat.le_of_ble_eq_true rfl) ?_
  obtain ⟨o, hV⟩ := hV
  refine s_iast d_X10_takeIn_90 o.1 o.2.1 o.2.2 ?_
  refine s_nmH (fun h3 eh3 => ?_)
  have hV := hV h3 eh3
  obtain ⟨o, hV⟩ := hV
  refine s_iinc (lv' := [(5, .inl (x5 + 1)), (4, .inl x4_2), (6, .inl x6_1), (0, .inr (.inr x0)), (1, .inl x1), (2, .inr (.inr x2)), (3, .inl x3)]) d_X10_takeIn_91 (ma 6 rfl) o (Nat.le_of_ble_eq_true rfl) rfl ?_
  refine s_goto (tgt := 21) d_X10_takeIn_94 (by decide) ?_
  refine s_pick (lv' := [(0, .inr (.inr x0)), (1, .inl x1), (2, .inr (.inr x2)), (3, .inl x3), (4, .inl x4_2), (5, .inl (x5 + 1))]) [3, 4, 5, 6, 1, 0] rfl ?_
  exact hP21 _ _ _ hV
def BLp_X10_takeIn_21 (x0 : Nat) (x1 : Int) (x2 : Nat) (x3 : Int) (P21 : Int → Int → Hp → Prop) (x4 : Int) (x5 : Int) (h : Hp) (Q : Hp → Prop) : Prop :=
  (x3 < x5 → (Q h)) ∧ (¬ x3 < x5 → (((-2147483648 : Int) ≤ x5 - 1 ∧ x5 - 1 ≤ (2147483647 : Int)) ∧ (hK h x2 = 2 ∧ C_X2_get x2 (x5 - 1) h (fun r2 h1 => ((r2 ≠ x1 → (J_X10_takeIn_46 P21 x0 x1 x2 x3 x5 1 x4 h1 Q)) ∧ (r2 = x1 → (J_X10_takeIn_46 P21 x0 x1 x2 x3 x5 0 x4 h1 Q)))))))
def Lp_X10_takeIn_21 (x0 : Nat) (x1 : Int) (x2 : Nat) (x3 : Int) (x4 : Int) (x5 : Int) (h : Hp) (Q : Hp → Prop) : Prop := ∀ P21 : Int → Int → Hp → Prop, (∀ (x4 : Int) (x5 : Int) (h : Hp), BLp_X10_takeIn_21 x0 x1 x2 x3 P21 x4 x5 h Q → P21 x4 x5 h) → P21 x4 x5 h
theorem Lp_X10_takeIn_21_ind {x0 : Nat} {x1 : Int} {x2 : Nat} {x3 : Int} {Q : Hp → Prop} (I : Int → Int → Hp → Prop) (μ : Int → Int → Hp → Nat) (hs : ∀ (P21 : Int → Int → Hp → Prop) (x4 : Int) (x5 : Int) (h : Hp), I x4 x5 h → (∀ (x4' : Int) (x5' : Int) (h' : Hp), I x4' x5' h' → μ x4' x5' h' < μ x4 x5 h → P21 x4' x5' h') → BLp_X10_takeIn_21 x0 x1 x2 x3 P21 x4 x5 h Q) : ∀ (x4 : Int) (x5 : Int) (h : Hp), I x4 x5 h → Lp_X10_takeIn_21 x0 x1 x2 x3 x4 x5 h Q := by
  intro x4 x5 h hI P21 hP
  have key : ∀ (n : Nat) (x4 : Int) (x5 : Int) (h : Hp), I x4 x5 h → μ x4 x5 h < n → P21 x4 x5 h := by
    intro n
    induction n with
    | zero => intro x4 x5 h _ hl; exact absurd hl (Nat.not_lt_zero _)
    | succ n ih => intro x4 x5 h hi hl; exact hP x4 x5 h (hs P21 x4 x5 h hi (fun x4 x5 h' hi' hl' => ih x4 x5 h' hi' (by omega)))
  exact key _ x4 x5 h hI (Nat.lt_succ_self _)
theorem GLp_X10_takeIn_21 (x0 : Nat) (x1 : Int) (x2 : Nat) (x3 : Int) (x4 : Int) (x5 : Int) (h : Hp) (Q : Hp → Prop) (hV : Lp_X10_takeIn_21 x0 x1 x2 x3 x4 x5 h Q) : Go i_X10_takeIn 21 [(0, .inr (.inr x0)), (1, .inl x1), (2, .inr (.inr x2)), (3, .inl x3), (4, .inl x4), (5, .inl x5)] [] h (qV Q) := by
  refine hV (fun x4 x5 h => Go i_X10_takeIn 21 [(0, .inr (.inr x0)), (1, .inl x1), (2, .inr (.inr x2)), (3, .inl x3), (4, .inl x4), (5, .inl x5)] [] h (qV Q)) (fun x4 x5 h hV => ?_)
  unfold BLp_X10_takeIn_21 at hV
  have hP21 : ∀ (x4 : Int) (x5 : Int) (h : Hp), Go i_X10_takeIn 21 [(0, .inr (.inr x0)), (1, .inl x1), (2, .inr (.inr x2)), (3, .inl x3), (4, .inl x4), (5, .inl x5)] [] h (qV Q) → Go i_X10_takeIn 21 [(0, .inr (.inr x0)), (1, .inl x1), (2, .inr (.inr x2)), (3, .inl x3), (4, .inl x4), (5, .inl x5)] [] h (qV Q) := fun _ _ h z => z
  refine s_iload d_X10_takeIn_21 (ma 5 rfl) ?_
  refine s_iload_n d_X10_takeIn_23 rfl (ma 3 rfl) ?_
  refine s_icmp_gt (tgt := 97) d_X10_takeIn_24 (by decide) (fun c => ?_) (fun c => ?_)
  · have hV := hV.1 c
    exact s_vret d_X10_takeIn_97 rfl ⟨rfl, hV⟩
  · have hV := hV.2 c
    refine s_iload d_X10_takeIn_27 (ma 4 rfl) ?_
    refine s_aload_n d_X10_takeIn_29 rfl (ma 2 rfl) ?_
    refine s_iload d_X10_takeIn_30 (ma 5 rfl) ?_
    refine s_iconst d_X10_takeIn_32 (okn rfl) ?_
    obtain ⟨o, hV⟩ := hV
    refine s_isub d_X10_takeIn_33 o ?_
    obtain ⟨o, hV⟩ := hV
    refine v_RX10_51 rfl (Nat.le_of_ble_eq_true rfl) d_X10_takeIn_34 o (Nat.le_of_ble_eq_true rfl) hV (fun r2 h1 hV => ?_)
    refine s_iload_n d_X10_takeIn_37 rfl (ma 1 rfl) ?_
    refine s_icmp_ne (tgt := 45) d_X10_takeIn_38 (by decide) (fun c => ?_) (fun c => ?_)
    · have hV := hV.1 c
      refine s_iconst d_X10_takeIn_45 (okn rfl) ?_
      refine s_pick (lv' := [(0, .inr (.inr x0)), (1, .inl x1), (2, .inr (.inr x2)), (3, .inl x3), (5, .inl x5)]) [0, 1, 2, 3, 5] rfl ?_
      exact GJ_X10_takeIn_46 _ _ _ _ _ _ _ _ _ (by intros; apply hP21; assumption) hV
    · have hV := hV.2 c
      refine s_iconst d_X10_takeIn_41 (okn rfl) ?_
      refine s_goto (tgt := 46) d_X10_takeIn_42 (by decide) ?_
      refine s_pick (lv' := [(0, .inr (.inr x0)), (1, .inl x1), (2, .inr (.inr x2)), (3, .inl x3), (5, .inl x5)]) [0, 1, 2, 3, 5] rfl ?_
      exact GJ_X10_takeIn_46 _ _ _ _ _ _ _ _ _ (by intros; apply hP21; assumption) hV
def V_X10_takeIn (x0 : Nat) (x1 : Int) (x2 : Nat) (x3 : Int) (h : Hp) (Q : Hp → Prop) : Prop :=
  hK h x0 = 9 ∧ ((hK h (hR h x0 2) = 12 ∧ (0 : Int) ≤ 0 ∧ 0 < hL h (hR h x0 2)) ∧ (∀ x4_1 : Int, x4_1 = hI h (hR h x0 2) 0 → (hK h x0 = 9 ∧ ((hK h (hR h x0 2) = 12 ∧ (0 : Int) ≤ 0 ∧ 0 < hL h (hR h x0 2)) ∧ (((-2147483648 : Int) ≤ (hI h (hR h x0 2) 0) + 1 ∧ (hI h (hR h x0 2) 0) + 1 ≤ (2147483647 : Int)) ∧ ((hK h (hR h x0 2) = 12 ∧ (0 : Int) ≤ 0 ∧ 0 < hL h (hR h x0 2)) ∧ ∀ h2 : Hp, h2 = wI h (hR h x0 2) 0 ((hI h (hR h x0 2) 0) + 1) → (Lp_X10_takeIn_21 x0 x1 x2 x3 x4_1 1 h2 Q)))))))
theorem G_X10_takeIn {x0 : Nat} {x1 : Int} {x2 : Nat} {x3 : Int} (h : Hp) (Q : Hp → Prop) (hV : V_X10_takeIn x0 x1 x2 x3 h Q) : C_X10_takeIn x0 x1 x2 x3 h Q := by
  unfold V_X10_takeIn at hV
  show Go i_X10_takeIn 0 [(0, .inr (.inr x0)), (1, .inl x1), (2, .inr (.inr x2)), (3, .inl x3)] [] h (qV Q)
  refine s_aload_n d_X10_takeIn_0 rfl (ma 0 rfl) ?_
  obtain ⟨o, hV⟩ := hV
  refine f_RX10_21g rfl d_X10_takeIn_1 o ?_
  refine s_iconst d_X10_takeIn_4 (okn rfl) ?_
  obtain ⟨o, hV⟩ := hV
  refine s_iald d_X10_takeIn_5 o.1 o.2.1 o.2.2 ?_
  refine s_nmI (fun x4_1 ex4_1 => ?_)
  have hV := hV x4_1 ex4_1
  refine s_istore (lv' := [(4, .inl x4_1), (0, .inr (.inr x0)), (1, .inl x1), (2, .inr (.inr x2)), (3, .inl x3)]) d_X10_takeIn_6 (Nat.le_of_ble_eq_true rfl) rfl ?_
  refine s_aload_n d_X10_takeIn_8 rfl (ma 1 rfl) ?_
  obtain ⟨o, hV⟩ := hV
  refine f_RX10_21g rfl d_X10_takeIn_9 o ?_
  refine s_iconst d_X10_takeIn_12 (okn rfl) ?_
  refine s_dup2 d_X10_takeIn_13 rfl rfl ?_
  obtain ⟨o, hV⟩ := hV
  refine s_iald d_X10_takeIn_14 o.1 o.2.1 o.2.2 ?_
  refine s_iconst d_X10_takeIn_15 (okn rfl) ?_
  obtain ⟨o, hV⟩ := hV
  refine s_iadd d_X10_takeIn_16 o ?_
  obtain ⟨o, hV⟩ := hV
  refine s_iast d_X10_takeIn_17 o.1 o.2.1 o.2.2 ?_
  refine s_nmH (fun h2 eh2 => ?_)
  have hV := hV h2 eh2
  refine s_iconst d_X10_takeIn_18 (okn rfl) ?_
  refine s_istore (lv' := [(5, .inl 1), (4, .inl x4_1), (0, .inr (.inr x0)), (1, .inl x1), (2, .inr (.inr x2)), (3, .inl x3)]) d_X10_takeIn_19 (Nat.le_of_ble_eq_true rfl) rfl ?_
  refine s_pick (lv' := [(0, .inr (.inr x0)), (1, .inl x1), (2, .inr (.inr x2)), (3, .inl x3), (4, .inl x4_1), (5, .inl 1)]) [2, 3, 4, 5, 1, 0] rfl ?_
  exact GLp_X10_takeIn_21 _ _ _ _ _ _ _ _ hV

theorem d_X1_init_0 : decode i_X1_init.2.1 0 = .ok (.aload_n 0, 1) := by decide +kernel
theorem d_X1_init_1 : decode i_X1_init.2.1 1 = .ok (.invokespecial 3, 3) := by decide +kernel
theorem d_X1_init_4 : decode i_X1_init.2.1 4 = .ok (.aload_n 0, 1) := by decide +kernel
theorem d_X1_init_5 : decode i_X1_init.2.1 5 = .ok (.sipush 240, 3) := by decide +kernel
theorem d_X1_init_8 : decode i_X1_init.2.1 8 = .ok (.newarray .char, 2) := by decide +kernel
theorem d_X1_init_10 : decode i_X1_init.2.1 10 = .ok (.putfield 9, 3) := by decide +kernel
theorem d_X1_init_13 : decode i_X1_init.2.1 13 = .ok (.aload_n 0, 1) := by decide +kernel
theorem d_X1_init_14 : decode i_X1_init.2.1 14 = .ok (.new 15, 3) := by decide +kernel
theorem d_X1_init_17 : decode i_X1_init.2.1 17 = .ok (.dup, 1) := by decide +kernel
theorem d_X1_init_18 : decode i_X1_init.2.1 18 = .ok (.bipush 60, 2) := by decide +kernel
theorem d_X1_init_20 : decode i_X1_init.2.1 20 = .ok (.invokespecial 17, 3) := by decide +kernel
theorem d_X1_init_23 : decode i_X1_init.2.1 23 = .ok (.putfield 20, 3) := by decide +kernel
theorem d_X1_init_26 : decode i_X1_init.2.1 26 = .ok (.aload_n 0, 1) := by decide +kernel
theorem d_X1_init_27 : decode i_X1_init.2.1 27 = .ok (.new 24, 3) := by decide +kernel
theorem d_X1_init_30 : decode i_X1_init.2.1 30 = .ok (.dup, 1) := by decide +kernel
theorem d_X1_init_31 : decode i_X1_init.2.1 31 = .ok (.invokespecial 26, 3) := by decide +kernel
theorem d_X1_init_34 : decode i_X1_init.2.1 34 = .ok (.putfield 27, 3) := by decide +kernel
theorem d_X1_init_37 : decode i_X1_init.2.1 37 = .ok (.aload_n 0, 1) := by decide +kernel
theorem d_X1_init_38 : decode i_X1_init.2.1 38 = .ok (.iconst (-1), 1) := by decide +kernel
theorem d_X1_init_39 : decode i_X1_init.2.1 39 = .ok (.putfield 31, 3) := by decide +kernel
theorem d_X1_init_42 : decode i_X1_init.2.1 42 = .ok (.return_, 1) := by decide +kernel
def V_X1_init (x0 : Nat) (h : Hp) (Q : Hp → Prop) : Prop :=
  hK h x0 = 1 ∧ (((0 : Int) ≤ 240 ∧ 240 ≤ (100000000 : Int)) ∧ ∀ n1 : Nat, n1 = hN h → ∀ h2 : Hp, h2 = al h 14 240 (Int.toNat 240) → (hK h2 x0 = 1 ∧ ∀ h3 : Hp, h3 = wR h2 x0 0 n1 → (∀ n4 : Nat, n4 = hN h3 → ∀ h5 : Hp, h5 = al h3 2 0 2 → (hK h5 n4 = 2 ∧ C_X2_init n4 60 h5 (fun h6 => (hK h6 x0 = 1 ∧ ∀ h7 : Hp, h7 = wR h6 x0 1 n4 → (∀ n8 : Nat, n8 = hN h7 → ∀ h9 : Hp, h9 = al h7 9 0 4 → (hK h9 n8 = 9 ∧ C_X10_init n8  h9 (fun h10 => (hK h10 x0 = 1 ∧ ∀ h11 : Hp, h11 = wR h10 x0 2 n8 → (hK h11 x0 = 1 ∧ ∀ h12 : Hp, h12 = wI h11 x0 5 (-1) → (Q h12))))))))))))
theorem G_X1_init {x0 : Nat} (h : Hp) (Q : Hp → Prop) (hV : V_X1_init x0 h Q) : C_X1_init x0 h Q := by
  unfold V_X1_init at hV
  show Go i_X1_init 0 [(0, .inr (.inr x0))] [] h (qV Q)
  refine s_aload_n d_X1_init_0 rfl (ma 0 rfl) ?_
  obtain ⟨o, hV⟩ := hV
  refine s_objInit d_X1_init_1 ob_RX1_3 (Nat.le_of_ble_eq_true rfl) rfl (by rw [o]; decide) ?_
  refine s_aload_n d_X1_init_4 rfl (ma 0 rfl) ?_
  refine s_sipush d_X1_init_5 (by decide) (okn rfl) ?_
  obtain ⟨o, hV⟩ := hV
  refine s_newc d_X1_init_8 ac_char o.1 o.2 ?_
  refine s_nmA (fun n1 en1 => ?_)
  refine s_nmH (fun h2 eh2 => ?_)
  have hV := hV n1 en1 h2 eh2
  obtain ⟨o, hV⟩ := hV
  refine f_RX1_9p rfl rfl d_X1_init_10 o (fun h3 eh3 => ?_)
  have hV := hV h3 eh3
  refine s_aload_n d_X1_init_13 rfl (ma 0 rfl) ?_
  refine s_new (ci := 2) d_X1_init_14 rfl q_RX1_15 ?_
  refine s_nmA (fun n4 en4 => ?_)
  refine s_nmH (fun h5 eh5 => ?_)
  have hV := hV n4 en4 h5 eh5
  refine s_dup d_X1_init_17 rfl ?_
  refine s_bipush d_X1_init_18 (by decide) (okn rfl) ?_
  obtain ⟨o, hV⟩ := hV
  refine v_RX1_17 rfl (Nat.le_of_ble_eq_true rfl) d_X1_init_20 o (Nat.le_of_ble_eq_true rfl) hV (fun h6 hV => ?_)
  obtain ⟨o, hV⟩ := hV
  refine f_RX1_20p rfl rfl d_X1_init_23 o (fun h7 eh7 => ?_)
  have hV := hV h7 eh7
  refine s_aload_n d_X1_init_26 rfl (ma 0 rfl) ?_
  refine s_new (ci := 9) d_X1_init_27 rfl q_RX1_24 ?_
  refine s_nmA (fun n8 en8 => ?_)
  refine s_nmH (fun h9 eh9 => ?_)
  have hV := hV n8 en8 h9 eh9
  refine s_dup d_X1_init_30 rfl ?_
  obtain ⟨o, hV⟩ := hV
  refine v_RX1_26 rfl (Nat.le_of_ble_eq_true rfl) d_X1_init_31 o (Nat.le_of_ble_eq_true rfl) hV (fun h10 hV => ?_)
  obtain ⟨o, hV⟩ := hV
  refine f_RX1_27p rfl rfl d_X1_init_34 o (fun h11 eh11 => ?_)
  have hV := hV h11 eh11
  refine s_aload_n d_X1_init_37 rfl (ma 0 rfl) ?_
  refine s_iconst d_X1_init_38 (okn rfl) ?_
  obtain ⟨o, hV⟩ := hV
  refine f_RX1_31p rfl d_X1_init_39 o (fun h12 eh12 => ?_)
  have hV := hV h12 eh12
  exact s_vret d_X1_init_42 rfl ⟨rfl, hV⟩

theorem d_X1_append_0 : decode i_X1_append.2.1 0 = .ok (.aload_n 0, 1) := by decide +kernel
theorem d_X1_append_1 : decode i_X1_append.2.1 1 = .ok (.getfield 35, 3) := by decide +kernel
theorem d_X1_append_4 : decode i_X1_append.2.1 4 = .ok (.sipush 240, 3) := by decide +kernel
theorem d_X1_append_7 : decode i_X1_append.2.1 7 = .ok (.if_icmp .lt 5, 3) := by decide +kernel
theorem d_X1_append_10 : decode i_X1_append.2.1 10 = .ok (.iconst 0, 1) := by decide +kernel
theorem d_X1_append_11 : decode i_X1_append.2.1 11 = .ok (.ireturn, 1) := by decide +kernel
theorem d_X1_append_12 : decode i_X1_append.2.1 12 = .ok (.aload_n 0, 1) := by decide +kernel
theorem d_X1_append_13 : decode i_X1_append.2.1 13 = .ok (.getfield 9, 3) := by decide +kernel
theorem d_X1_append_16 : decode i_X1_append.2.1 16 = .ok (.aload_n 0, 1) := by decide +kernel
theorem d_X1_append_17 : decode i_X1_append.2.1 17 = .ok (.getfield 35, 3) := by decide +kernel
theorem d_X1_append_20 : decode i_X1_append.2.1 20 = .ok (.iload_n 1, 1) := by decide +kernel
theorem d_X1_append_21 : decode i_X1_append.2.1 21 = .ok (.i2c, 1) := by decide +kernel
theorem d_X1_append_22 : decode i_X1_append.2.1 22 = .ok (.castore, 1) := by decide +kernel
theorem d_X1_append_23 : decode i_X1_append.2.1 23 = .ok (.aload_n 0, 1) := by decide +kernel
theorem d_X1_append_24 : decode i_X1_append.2.1 24 = .ok (.dup, 1) := by decide +kernel
theorem d_X1_append_25 : decode i_X1_append.2.1 25 = .ok (.getfield 35, 3) := by decide +kernel
theorem d_X1_append_28 : decode i_X1_append.2.1 28 = .ok (.iconst 1, 1) := by decide +kernel
theorem d_X1_append_29 : decode i_X1_append.2.1 29 = .ok (.iadd, 1) := by decide +kernel
theorem d_X1_append_30 : decode i_X1_append.2.1 30 = .ok (.putfield 35, 3) := by decide +kernel
theorem d_X1_append_33 : decode i_X1_append.2.1 33 = .ok (.iconst 1, 1) := by decide +kernel
theorem d_X1_append_34 : decode i_X1_append.2.1 34 = .ok (.ireturn, 1) := by decide +kernel
def V_X1_append (x0 : Nat) (x1 : Int) (h : Hp) (Q : Int → Hp → Prop) : Prop :=
  hK h x0 = 1 ∧ ((hI h x0 3 < 240 → (hK h x0 = 1 ∧ (hK h x0 = 1 ∧ (((0 : Int) ≤ x1 ∧ x1 ≤ (65535 : Int)) ∧ ((hK h (hR h x0 0) = 14 ∧ (0 : Int) ≤ hI h x0 3 ∧ hI h x0 3 < hL h (hR h x0 0) ∧ ((0 : Int) ≤ x1 ∧ x1 ≤ (65535 : Int))) ∧ ∀ h1 : Hp, h1 = wI h (hR h x0 0) (hI h x0 3) x1 → (hK h1 x0 = 1 ∧ (((-2147483648 : Int) ≤ (hI h1 x0 3) + 1 ∧ (hI h1 x0 3) + 1 ≤ (2147483647 : Int)) ∧ (hK h1 x0 = 1 ∧ ∀ h2 : Hp, h2 = wI h1 x0 3 ((hI h1 x0 3) + 1) → (Q 1 h2))))))))) ∧ (¬ hI h x0 3 < 240 → (Q 0 h)))
theorem G_X1_append {x0 : Nat} {x1 : Int} (h : Hp) (Q : Int → Hp → Prop) (hV : V_X1_append x0 x1 h Q) : C_X1_append x0 x1 h Q := by
  unfold V_X1_append at hV
  show Go i_X1_append 0 [(0, .inr (.inr x0)), (1, .inl x1)] [] h (qI Q)
  refine s_aload_n d_X1_append_0 rfl (ma 0 rfl) ?_
  obtain ⟨o, hV⟩ := hV
  refine f_RX1_35g rfl d_X1_append_1 o ?_
  refine s_sipush d_X1_append_4 (by decide) (okn rfl) ?_
  refine s_icmp_lt (tgt := 12) d_X1_append_7 (by decide) (fun c => ?_) (fun c => ?_)
  · have hV := hV.1 c
    refine s_aload_n d_X1_append_12 rfl (ma 0 rfl) ?_
    obtain ⟨o, hV⟩ := hV
    refine f_RX1_9g rfl d_X1_append_13 o ?_
    refine s_aload_n d_X1_append_16 rfl (ma 0 rfl) ?_
    obtain ⟨o, hV⟩ := hV
    refine f_RX1_35g rfl d_X1_append_17 o ?_
    refine s_iload_n d_X1_append_20 rfl (ma 1 rfl) ?_
    obtain ⟨o, hV⟩ := hV
    refine s_i2c d_X1_append_21 o ?_
    obtain ⟨o, hV⟩ := hV
    refine s_cast d_X1_append_22 o.1 o.2.1 o.2.2.1 o.2.2.2 ?_
    refine s_nmH (fun h1 eh1 => ?_)
    have hV := hV h1 eh1
    refine s_aload_n d_X1_append_23 rfl (ma 0 rfl) ?_
    refine s_dup d_X1_append_24 rfl ?_
    obtain ⟨o, hV⟩ := hV
    refine f_RX1_35g rfl d_X1_append_25 o ?_
    refine s_iconst d_X1_append_28 (okn rfl) ?_
    obtain ⟨o, hV⟩ := hV
    refine s_iadd d_X1_append_29 o ?_
    obtain ⟨o, hV⟩ := hV
    refine f_RX1_35p rfl d_X1_append_30 o (fun h2 eh2 => ?_)
    have hV := hV h2 eh2
    refine s_iconst d_X1_append_33 (okn rfl) ?_
    exact s_iret d_X1_append_34 rfl (nar_z (Or.inr rfl)) ⟨_, rfl, hV⟩
  · have hV := hV.2 c
    refine s_iconst d_X1_append_10 (okn rfl) ?_
    exact s_iret d_X1_append_11 rfl (nar_z (Or.inl rfl)) ⟨_, rfl, hV⟩

theorem d_X1_parse_0 : decode i_X1_parse.2.1 0 = .ok (.aload_n 0, 1) := by decide +kernel
theorem d_X1_parse_1 : decode i_X1_parse.2.1 1 = .ok (.getfield 20, 3) := by decide +kernel
theorem d_X1_parse_4 : decode i_X1_parse.2.1 4 = .ok (.iconst 0, 1) := by decide +kernel
theorem d_X1_parse_5 : decode i_X1_parse.2.1 5 = .ok (.putfield 38, 3) := by decide +kernel
theorem d_X1_parse_8 : decode i_X1_parse.2.1 8 = .ok (.aload_n 0, 1) := by decide +kernel
theorem d_X1_parse_9 : decode i_X1_parse.2.1 9 = .ok (.getfield 27, 3) := by decide +kernel
theorem d_X1_parse_12 : decode i_X1_parse.2.1 12 = .ok (.iconst 0, 1) := by decide +kernel
theorem d_X1_parse_13 : decode i_X1_parse.2.1 13 = .ok (.putfield 39, 3) := by decide +kernel
theorem d_X1_parse_16 : decode i_X1_parse.2.1 16 = .ok (.aload_n 0, 1) := by decide +kernel
theorem d_X1_parse_17 : decode i_X1_parse.2.1 17 = .ok (.aconst_null, 1) := by decide +kernel
theorem d_X1_parse_18 : decode i_X1_parse.2.1 18 = .ok (.putfield 40, 3) := by decide +kernel
theorem d_X1_parse_21 : decode i_X1_parse.2.1 21 = .ok (.aload_n 0, 1) := by decide +kernel
theorem d_X1_parse_22 : decode i_X1_parse.2.1 22 = .ok (.iconst 0, 1) := by decide +kernel
theorem d_X1_parse_23 : decode i_X1_parse.2.1 23 = .ok (.putfield 43, 3) := by decide +kernel
theorem d_X1_parse_26 : decode i_X1_parse.2.1 26 = .ok (.aload_n 0, 1) := by decide +kernel
theorem d_X1_parse_27 : decode i_X1_parse.2.1 27 = .ok (.iconst (-1), 1) := by decide +kernel
theorem d_X1_parse_28 : decode i_X1_parse.2.1 28 = .ok (.putfield 31, 3) := by decide +kernel
theorem d_X1_parse_31 : decode i_X1_parse.2.1 31 = .ok (.iconst 0, 1) := by decide +kernel
theorem d_X1_parse_32 : decode i_X1_parse.2.1 32 = .ok (.istore_n 1, 1) := by decide +kernel
theorem d_X1_parse_33 : decode i_X1_parse.2.1 33 = .ok (.iload_n 1, 1) := by decide +kernel
theorem d_X1_parse_34 : decode i_X1_parse.2.1 34 = .ok (.aload_n 0, 1) := by decide +kernel
theorem d_X1_parse_35 : decode i_X1_parse.2.1 35 = .ok (.getfield 35, 3) := by decide +kernel
theorem d_X1_parse_38 : decode i_X1_parse.2.1 38 = .ok (.if_icmp .ge 31, 3) := by decide +kernel
theorem d_X1_parse_41 : decode i_X1_parse.2.1 41 = .ok (.aload_n 0, 1) := by decide +kernel
theorem d_X1_parse_42 : decode i_X1_parse.2.1 42 = .ok (.getfield 43, 3) := by decide +kernel
theorem d_X1_parse_45 : decode i_X1_parse.2.1 45 = .ok (.ifCond .ne 24, 3) := by decide +kernel
theorem d_X1_parse_48 : decode i_X1_parse.2.1 48 = .ok (.aload_n 0, 1) := by decide +kernel
theorem d_X1_parse_49 : decode i_X1_parse.2.1 49 = .ok (.aload_n 0, 1) := by decide +kernel
theorem d_X1_parse_50 : decode i_X1_parse.2.1 50 = .ok (.aload_n 0, 1) := by decide +kernel
theorem d_X1_parse_51 : decode i_X1_parse.2.1 51 = .ok (.getfield 9, 3) := by decide +kernel
theorem d_X1_parse_54 : decode i_X1_parse.2.1 54 = .ok (.iload_n 1, 1) := by decide +kernel
theorem d_X1_parse_55 : decode i_X1_parse.2.1 55 = .ok (.caload, 1) := by decide +kernel
theorem d_X1_parse_56 : decode i_X1_parse.2.1 56 = .ok (.invokevirtual 46, 3) := by decide +kernel
theorem d_X1_parse_59 : decode i_X1_parse.2.1 59 = .ok (.iload_n 1, 1) := by decide +kernel
theorem d_X1_parse_60 : decode i_X1_parse.2.1 60 = .ok (.invokevirtual 50, 3) := by decide +kernel
theorem d_X1_parse_63 : decode i_X1_parse.2.1 63 = .ok (.iinc 1 1, 3) := by decide +kernel
theorem d_X1_parse_66 : decode i_X1_parse.2.1 66 = .ok (.goto (-33), 3) := by decide +kernel
theorem d_X1_parse_69 : decode i_X1_parse.2.1 69 = .ok (.aload_n 0, 1) := by decide +kernel
theorem d_X1_parse_70 : decode i_X1_parse.2.1 70 = .ok (.getfield 43, 3) := by decide +kernel
theorem d_X1_parse_73 : decode i_X1_parse.2.1 73 = .ok (.ifCond .ne 19, 3) := by decide +kernel
theorem d_X1_parse_76 : decode i_X1_parse.2.1 76 = .ok (.aload_n 0, 1) := by decide +kernel
theorem d_X1_parse_77 : decode i_X1_parse.2.1 77 = .ok (.getfield 40, 3) := by decide +kernel
theorem d_X1_parse_80 : decode i_X1_parse.2.1 80 = .ok (.ifnull 12, 3) := by decide +kernel
theorem d_X1_parse_83 : decode i_X1_parse.2.1 83 = .ok (.aload_n 0, 1) := by decide +kernel
theorem d_X1_parse_84 : decode i_X1_parse.2.1 84 = .ok (.iconst 1, 1) := by decide +kernel
theorem d_X1_parse_85 : decode i_X1_parse.2.1 85 = .ok (.aload_n 0, 1) := by decide +kernel
theorem d_X1_parse_86 : decode i_X1_parse.2.1 86 = .ok (.getfield 35, 3) := by decide +kernel
theorem d_X1_parse_89 : decode i_X1_parse.2.1 89 = .ok (.invokevirtual 50, 3) := by decide +kernel
theorem d_X1_parse_92 : decode i_X1_parse.2.1 92 = .ok (.return_, 1) := by decide +kernel
def J_X1_parse_69 (x0 : Nat) (h : Hp) (Q : Hp → Prop) : Prop :=
  hK h x0 = 1 ∧ ((hI h x0 4 ≠ 0 → (Q h)) ∧ (hI h x0 4 = 0 → (hK h x0 = 1 ∧ ((hR h x0 6 = 0 → (Q h)) ∧ (¬ hR h x0 6 = 0 → (hK h x0 = 1 ∧ (hK h x0 = 1 ∧ C_X1_noteFault x0 1 (hI h x0 3) h (fun h1 => (Q h1)))))))))
theorem GJ_X1_parse_69 (x0 : Nat) (h : Hp) (Q : Hp → Prop) (hV : J_X1_parse_69 x0 h Q) : Go i_X1_parse 69 [(0, .inr (.inr x0))] [] h (qV Q) := by
  unfold J_X1_parse_69 at hV
  refine s_aload_n d_X1_parse_69 rfl (ma 0 rfl) ?_
  obtain ⟨o, hV⟩ := hV
  refine f_RX1_43g rfl d_X1_parse_70 o ?_
  refine s_if_ne (tgt := 92) d_X1_parse_73 (by decide) (fun c => ?_) (fun c => ?_)
  · have hV := hV.1 c
    exact s_vret d_X1_parse_92 rfl ⟨rfl, hV⟩
  · have hV := hV.2 c
    refine s_aload_n d_X1_parse_76 rfl (ma 0 rfl) ?_
    obtain ⟨o, hV⟩ := hV
    refine f_RX1_40g rfl d_X1_parse_77 o ?_
    refine s_ifnull (tgt := 92) d_X1_parse_80 (by decide) (fun c => ?_) (fun c => ?_)
    · have hV := hV.1 c
      exact s_vret d_X1_parse_92 rfl ⟨rfl, hV⟩
    · have hV := hV.2 c
      refine s_aload_n d_X1_parse_83 rfl (ma 0 rfl) ?_
      refine s_iconst d_X1_parse_84 (okn rfl) ?_
      refine s_aload_n d_X1_parse_85 rfl (ma 0 rfl) ?_
      obtain ⟨o, hV⟩ := hV
      refine f_RX1_35g rfl d_X1_parse_86 o ?_
      obtain ⟨o, hV⟩ := hV
      refine v_RX1_50 rfl (Nat.le_of_ble_eq_true rfl) d_X1_parse_89 o (Nat.le_of_ble_eq_true rfl) hV (fun h1 hV => ?_)
      exact s_vret d_X1_parse_92 rfl ⟨rfl, hV⟩
def BLp_X1_parse_33 (x0 : Nat) (P33 : Int → Hp → Prop) (x1 : Int) (h : Hp) (Q : Hp → Prop) : Prop :=
  hK h x0 = 1 ∧ ((hI h x0 3 ≤ x1 → (J_X1_parse_69 x0 h Q)) ∧ (¬ hI h x0 3 ≤ x1 → (hK h x0 = 1 ∧ ((hI h x0 4 ≠ 0 → (J_X1_parse_69 x0 h Q)) ∧ (hI h x0 4 = 0 → (hK h x0 = 1 ∧ ((hK h (hR h x0 0) = 14 ∧ (0 : Int) ≤ x1 ∧ x1 < hL h (hR h x0 0)) ∧ (hK h x0 = 1 ∧ C_X1_takeLetter x0 (hI h (hR h x0 0) x1) h (fun r2 h1 => (hK h1 x0 = 1 ∧ C_X1_noteFault x0 r2 x1 h1 (fun h3 => (((-2147483648 : Int) ≤ x1 + 1 ∧ x1 + 1 ≤ (2147483647 : Int)) ∧ (P33 (x1 + 1) h3)))))))))))))
def Lp_X1_parse_33 (x0 : Nat) (x1 : Int) (h : Hp) (Q : Hp → Prop) : Prop := ∀ P33 : Int → Hp → Prop, (∀ (x1 : Int) (h : Hp), BLp_X1_parse_33 x0 P33 x1 h Q → P33 x1 h) → P33 x1 h
theorem Lp_X1_parse_33_ind {x0 : Nat} {Q : Hp → Prop} (I : Int → Hp → Prop) (μ : Int → Hp → Nat) (hs : ∀ (P33 : Int → Hp → Prop) (x1 : Int) (h : Hp), I x1 h → (∀ (x1' : Int) (h' : Hp), I x1' h' → μ x1' h' < μ x1 h → P33 x1' h') → BLp_X1_parse_33 x0 P33 x1 h Q) : ∀ (x1 : Int) (h : Hp), I x1 h → Lp_X1_parse_33 x0 x1 h Q := by
  intro x1 h hI P33 hP
  have key : ∀ (n : Nat) (x1 : Int) (h : Hp), I x1 h → μ x1 h < n → P33 x1 h := by
    intro n
    induction n with
    | zero => intro x1 h _ hl; exact absurd hl (Nat.not_lt_zero _)
    | succ n ih => intro x1 h hi hl; exact hP x1 h (hs P33 x1 h hi (fun x1 h' hi' hl' => ih x1 h' hi' (by omega)))
  exact key _ x1 h hI (Nat.lt_succ_self _)
theorem GLp_X1_parse_33 (x0 : Nat) (x1 : Int) (h : Hp) (Q : Hp → Prop) (hV : Lp_X1_parse_33 x0 x1 h Q) : Go i_X1_parse 33 [(0, .inr (.inr x0)), (1, .inl x1)] [] h (qV Q) := by
  refine hV (fun x1 h => Go i_X1_parse 33 [(0, .inr (.inr x0)), (1, .inl x1)] [] h (qV Q)) (fun x1 h hV => ?_)
  unfold BLp_X1_parse_33 at hV
  have hP33 : ∀ (x1 : Int) (h : Hp), Go i_X1_parse 33 [(0, .inr (.inr x0)), (1, .inl x1)] [] h (qV Q) → Go i_X1_parse 33 [(0, .inr (.inr x0)), (1, .inl x1)] [] h (qV Q) := fun _ h z => z
  refine s_iload_n d_X1_parse_33 rfl (ma 1 rfl) ?_
  refine s_aload_n d_X1_parse_34 rfl (ma 0 rfl) ?_
  obtain ⟨o, hV⟩ := hV
  refine f_RX1_35g rfl d_X1_parse_35 o ?_
  refine s_icmp_ge (tgt := 69) d_X1_parse_38 (by decide) (fun c => ?_) (fun c => ?_)
  · have hV := hV.1 c
    refine s_pick (lv' := [(0, .inr (.inr x0))]) [0] rfl ?_
    exact GJ_X1_parse_69 _ _ _ hV
  · have hV := hV.2 c
    refine s_aload_n d_X1_parse_41 rfl (ma 0 rfl) ?_
    obtain ⟨o, hV⟩ := hV
    refine f_RX1_43g rfl d_X1_parse_42 o ?_
    refine s_if_ne (tgt := 69) d_X1_parse_45 (by decide) (fun c => ?_) (fun c => ?_)
    · have hV := hV.1 c
      refine s_pick (lv' := [(0, .inr (.inr x0))]) [0] rfl ?_
      exact GJ_X1_parse_69 _ _ _ hV
    · have hV := hV.2 c
      refine s_aload_n d_X1_parse_48 rfl (ma 0 rfl) ?_
      refine s_aload_n d_X1_parse_49 rfl (ma 0 rfl) ?_
      refine s_aload_n d_X1_parse_50 rfl (ma 0 rfl) ?_
      obtain ⟨o, hV⟩ := hV
      refine f_RX1_9g rfl d_X1_parse_51 o ?_
      refine s_iload_n d_X1_parse_54 rfl (ma 1 rfl) ?_
      obtain ⟨o, hV⟩ := hV
      refine s_cald d_X1_parse_55 o.1 o.2.1 o.2.2 ?_
      obtain ⟨o, hV⟩ := hV
      refine v_RX1_46 rfl (Nat.le_of_ble_eq_true rfl) d_X1_parse_56 o (Nat.le_of_ble_eq_true rfl) hV (fun r2 h1 hV => ?_)
      refine s_iload_n d_X1_parse_59 rfl (ma 1 rfl) ?_
      obtain ⟨o, hV⟩ := hV
      refine v_RX1_50 rfl (Nat.le_of_ble_eq_true rfl) d_X1_parse_60 o (Nat.le_of_ble_eq_true rfl) hV (fun h3 hV => ?_)
      obtain ⟨o, hV⟩ := hV
      refine s_iinc (lv' := [(1, .inl (x1 + 1)), (0, .inr (.inr x0))]) d_X1_parse_63 (ma 1 rfl) o (Nat.le_of_ble_eq_true rfl) rfl ?_
      refine s_goto (tgt := 33) d_X1_parse_66 (by decide) ?_
      refine s_pick (lv' := [(0, .inr (.inr x0)), (1, .inl (x1 + 1))]) [1, 0] rfl ?_
      exact hP33 _ _ hV
def V_X1_parse (x0 : Nat) (h : Hp) (Q : Hp → Prop) : Prop :=
  hK h x0 = 1 ∧ (hK h (hR h x0 1) = 2 ∧ ∀ h1 : Hp, h1 = wI h (hR h x0 1) 1 0 → (hK h1 x0 = 1 ∧ (hK h1 (hR h1 x0 2) = 9 ∧ ∀ h2 : Hp, h2 = wI h1 (hR h1 x0 2) 3 0 → (hK h2 x0 = 1 ∧ ∀ h3 : Hp, h3 = wR h2 x0 6 0 → (hK h3 x0 = 1 ∧ ∀ h4 : Hp, h4 = wI h3 x0 4 0 → (hK h4 x0 = 1 ∧ ∀ h5 : Hp, h5 = wI h4 x0 5 (-1) → (Lp_X1_parse_33 x0 0 h5 Q)))))))
theorem G_X1_parse {x0 : Nat} (h : Hp) (Q : Hp → Prop) (hV : V_X1_parse x0 h Q) : C_X1_parse x0 h Q := by
  unfold V_X1_parse at hV
  show Go i_X1_parse 0 [(0, .inr (.inr x0))] [] h (qV Q)
  refine s_aload_n d_X1_parse_0 rfl (ma 0 rfl) ?_
  obtain ⟨o, hV⟩ := hV
  refine f_RX1_20g rfl d_X1_parse_1 o ?_
  refine s_iconst d_X1_parse_4 (okn rfl) ?_
  obtain ⟨o, hV⟩ := hV
  refine f_RX1_38p rfl d_X1_parse_5 o (fun h1 eh1 => ?_)
  have hV := hV h1 eh1
  refine s_aload_n d_X1_parse_8 rfl (ma 0 rfl) ?_
  obtain ⟨o, hV⟩ := hV
  refine f_RX1_27g rfl d_X1_parse_9 o ?_
  refine s_iconst d_X1_parse_12 (okn rfl) ?_
  obtain ⟨o, hV⟩ := hV
  refine f_RX1_39p rfl d_X1_parse_13 o (fun h2 eh2 => ?_)
  have hV := hV h2 eh2
  refine s_aload_n d_X1_parse_16 rfl (ma 0 rfl) ?_
  refine s_null d_X1_parse_17 ?_
  obtain ⟨o, hV⟩ := hV
  refine f_RX1_40p rfl d_X1_parse_18 o (fun h3 eh3 => ?_)
  have hV := hV h3 eh3
  refine s_aload_n d_X1_parse_21 rfl (ma 0 rfl) ?_
  refine s_iconst d_X1_parse_22 (okn rfl) ?_
  obtain ⟨o, hV⟩ := hV
  refine f_RX1_43p rfl d_X1_parse_23 o (fun h4 eh4 => ?_)
  have hV := hV h4 eh4
  refine s_aload_n d_X1_parse_26 rfl (ma 0 rfl) ?_
  refine s_iconst d_X1_parse_27 (okn rfl) ?_
  obtain ⟨o, hV⟩ := hV
  refine f_RX1_31p rfl d_X1_parse_28 o (fun h5 eh5 => ?_)
  have hV := hV h5 eh5
  refine s_iconst d_X1_parse_31 (okn rfl) ?_
  refine s_istore_n (lv' := [(1, .inl 0), (0, .inr (.inr x0))]) d_X1_parse_32 rfl (Nat.le_of_ble_eq_true rfl) rfl ?_
  refine s_pick (lv' := [(0, .inr (.inr x0)), (1, .inl 0)]) [1, 0] rfl ?_
  exact GLp_X1_parse_33 _ _ _ _ hV

theorem d_X1_noteFault_0 : decode i_X1_noteFault.2.1 0 = .ok (.iload_n 1, 1) := by decide +kernel
theorem d_X1_noteFault_1 : decode i_X1_noteFault.2.1 1 = .ok (.ifCond .eq 13, 3) := by decide +kernel
theorem d_X1_noteFault_4 : decode i_X1_noteFault.2.1 4 = .ok (.aload_n 0, 1) := by decide +kernel
theorem d_X1_noteFault_5 : decode i_X1_noteFault.2.1 5 = .ok (.iload_n 1, 1) := by decide +kernel
theorem d_X1_noteFault_6 : decode i_X1_noteFault.2.1 6 = .ok (.putfield 43, 3) := by decide +kernel
theorem d_X1_noteFault_9 : decode i_X1_noteFault.2.1 9 = .ok (.aload_n 0, 1) := by decide +kernel
theorem d_X1_noteFault_10 : decode i_X1_noteFault.2.1 10 = .ok (.iload_n 2, 1) := by decide +kernel
theorem d_X1_noteFault_11 : decode i_X1_noteFault.2.1 11 = .ok (.putfield 31, 3) := by decide +kernel
theorem d_X1_noteFault_14 : decode i_X1_noteFault.2.1 14 = .ok (.return_, 1) := by decide +kernel
def V_X1_noteFault (x0 : Nat) (x1 : Int) (x2 : Int) (h : Hp) (Q : Hp → Prop) : Prop :=
  (x1 = 0 → (Q h)) ∧ (¬ x1 = 0 → (hK h x0 = 1 ∧ ∀ h1 : Hp, h1 = wI h x0 4 x1 → (hK h1 x0 = 1 ∧ ∀ h2 : Hp, h2 = wI h1 x0 5 x2 → (Q h2))))
theorem G_X1_noteFault {x0 : Nat} {x1 : Int} {x2 : Int} (h : Hp) (Q : Hp → Prop) (hV : V_X1_noteFault x0 x1 x2 h Q) : C_X1_noteFault x0 x1 x2 h Q := by
  unfold V_X1_noteFault at hV
  show Go i_X1_noteFault 0 [(0, .inr (.inr x0)), (1, .inl x1), (2, .inl x2)] [] h (qV Q)
  refine s_iload_n d_X1_noteFault_0 rfl (ma 1 rfl) ?_
  refine s_if_eq (tgt := 14) d_X1_noteFault_1 (by decide) (fun c => ?_) (fun c => ?_)
  · have hV := hV.1 c
    exact s_vret d_X1_noteFault_14 rfl ⟨rfl, hV⟩
  · have hV := hV.2 c
    refine s_aload_n d_X1_noteFault_4 rfl (ma 0 rfl) ?_
    refine s_iload_n d_X1_noteFault_5 rfl (ma 1 rfl) ?_
    obtain ⟨o, hV⟩ := hV
    refine f_RX1_43p rfl d_X1_noteFault_6 o (fun h1 eh1 => ?_)
    have hV := hV h1 eh1
    refine s_aload_n d_X1_noteFault_9 rfl (ma 0 rfl) ?_
    refine s_iload_n d_X1_noteFault_10 rfl (ma 2 rfl) ?_
    obtain ⟨o, hV⟩ := hV
    refine f_RX1_31p rfl d_X1_noteFault_11 o (fun h2 eh2 => ?_)
    have hV := hV h2 eh2
    exact s_vret d_X1_noteFault_14 rfl ⟨rfl, hV⟩

theorem d_X1_takeLetter_0 : decode i_X1_takeLetter.2.1 0 = .ok (.iload_n 1, 1) := by decide +kernel
theorem d_X1_takeLetter_1 : decode i_X1_takeLetter.2.1 1 = .ok (.bipush 32, 2) := by decide +kernel
theorem d_X1_takeLetter_3 : decode i_X1_takeLetter.2.1 3 = .ok (.if_icmp .ne 5, 3) := by decide +kernel
theorem d_X1_takeLetter_6 : decode i_X1_takeLetter.2.1 6 = .ok (.iconst 0, 1) := by decide +kernel
theorem d_X1_takeLetter_7 : decode i_X1_takeLetter.2.1 7 = .ok (.ireturn, 1) := by decide +kernel
theorem d_X1_takeLetter_8 : decode i_X1_takeLetter.2.1 8 = .ok (.aload_n 0, 1) := by decide +kernel
theorem d_X1_takeLetter_9 : decode i_X1_takeLetter.2.1 9 = .ok (.getfield 40, 3) := by decide +kernel
theorem d_X1_takeLetter_12 : decode i_X1_takeLetter.2.1 12 = .ok (.ifnonnull 11, 3) := by decide +kernel
theorem d_X1_takeLetter_15 : decode i_X1_takeLetter.2.1 15 = .ok (.aload_n 0, 1) := by decide +kernel
theorem d_X1_takeLetter_16 : decode i_X1_takeLetter.2.1 16 = .ok (.iload_n 1, 1) := by decide +kernel
theorem d_X1_takeLetter_17 : decode i_X1_takeLetter.2.1 17 = .ok (.invokevirtual 54, 3) := by decide +kernel
theorem d_X1_takeLetter_20 : decode i_X1_takeLetter.2.1 20 = .ok (.goto 12, 3) := by decide +kernel
theorem d_X1_takeLetter_23 : decode i_X1_takeLetter.2.1 23 = .ok (.aload_n 0, 1) := by decide +kernel
theorem d_X1_takeLetter_24 : decode i_X1_takeLetter.2.1 24 = .ok (.iload_n 1, 1) := by decide +kernel
theorem d_X1_takeLetter_25 : decode i_X1_takeLetter.2.1 25 = .ok (.aload_n 0, 1) := by decide +kernel
theorem d_X1_takeLetter_26 : decode i_X1_takeLetter.2.1 26 = .ok (.getfield 40, 3) := by decide +kernel
theorem d_X1_takeLetter_29 : decode i_X1_takeLetter.2.1 29 = .ok (.invokevirtual 57, 3) := by decide +kernel
theorem d_X1_takeLetter_32 : decode i_X1_takeLetter.2.1 32 = .ok (.ireturn, 1) := by decide +kernel
def V_X1_takeLetter (x0 : Nat) (x1 : Int) (h : Hp) (Q : Int → Hp → Prop) : Prop :=
  (x1 ≠ 32 → (hK h x0 = 1 ∧ ((hR h x0 6 ≠ 0 → (hK h x0 = 1 ∧ (hK h x0 = 1 ∧ C_X1_goOn x0 x1 (hR h x0 6) h (fun r2 h1 => (Q r2 h1))))) ∧ (¬ hR h x0 6 ≠ 0 → (hK h x0 = 1 ∧ C_X1_openClause x0 x1 h (fun r4 h3 => (Q r4 h3))))))) ∧ (x1 = 32 → (Q 0 h))
theorem G_X1_takeLetter {x0 : Nat} {x1 : Int} (h : Hp) (Q : Int → Hp → Prop) (hV : V_X1_takeLetter x0 x1 h Q) : C_X1_takeLetter x0 x1 h Q := by
  unfold V_X1_takeLetter at hV
  show Go i_X1_takeLetter 0 [(0, .inr (.inr x0)), (1, .inl x1)] [] h (qI Q)
  refine s_iload_n d_X1_takeLetter_0 rfl (ma 1 rfl) ?_
  refine s_bipush d_X1_takeLetter_1 (by decide) (okn rfl) ?_
  refine s_icmp_ne (tgt := 8) d_X1_takeLetter_3 (by decide) (fun c => ?_) (fun c => ?_)
  · have hV := hV.1 c
    refine s_aload_n d_X1_takeLetter_8 rfl (ma 0 rfl) ?_
    obtain ⟨o, hV⟩ := hV
    refine f_RX1_40g rfl d_X1_takeLetter_9 o ?_
    refine s_ifnonnull (tgt := 23) d_X1_takeLetter_12 (by decide) (fun c => ?_) (fun c => ?_)
    · have hV := hV.1 c
      refine s_aload_n d_X1_takeLetter_23 rfl (ma 0 rfl) ?_
      refine s_iload_n d_X1_takeLetter_24 rfl (ma 1 rfl) ?_
      refine s_aload_n d_X1_takeLetter_25 rfl (ma 0 rfl) ?_
      obtain ⟨o, hV⟩ := hV
      refine f_RX1_40g rfl d_X1_takeLetter_26 o ?_
      obtain ⟨o, hV⟩ := hV
      refine v_RX1_57 rfl (Nat.le_of_ble_eq_true rfl) d_X1_takeLetter_29 o (Nat.le_of_ble_eq_true rfl) hV (fun r2 h1 hV => ?_)
      exact s_iret d_X1_takeLetter_32 rfl rfl ⟨_, rfl, hV⟩
    · have hV := hV.2 c
      refine s_aload_n d_X1_takeLetter_15 rfl (ma 0 rfl) ?_
      refine s_iload_n d_X1_takeLetter_16 rfl (ma 1 rfl) ?_
      obtain ⟨o, hV⟩ := hV
      refine v_RX1_54 rfl (Nat.le_of_ble_eq_true rfl) d_X1_takeLetter_17 o (Nat.le_of_ble_eq_true rfl) hV (fun r4 h3 hV => ?_)
      refine s_goto (tgt := 32) d_X1_takeLetter_20 (by decide) ?_
      exact s_iret d_X1_takeLetter_32 rfl rfl ⟨_, rfl, hV⟩
  · have hV := hV.2 c
    refine s_iconst d_X1_takeLetter_6 (okn rfl) ?_
    exact s_iret d_X1_takeLetter_7 rfl rfl ⟨_, rfl, hV⟩

theorem d_X1_openClause_0 : decode i_X1_openClause.2.1 0 = .ok (.aload_n 0, 1) := by decide +kernel
theorem d_X1_openClause_1 : decode i_X1_openClause.2.1 1 = .ok (.getfield 20, 3) := by decide +kernel
theorem d_X1_openClause_4 : decode i_X1_openClause.2.1 4 = .ok (.getfield 38, 3) := by decide +kernel
theorem d_X1_openClause_7 : decode i_X1_openClause.2.1 7 = .ok (.ifCond .le 7, 3) := by decide +kernel
theorem d_X1_openClause_10 : decode i_X1_openClause.2.1 10 = .ok (.iconst 1, 1) := by decide +kernel
theorem d_X1_openClause_11 : decode i_X1_openClause.2.1 11 = .ok (.goto 4, 3) := by decide +kernel
theorem d_X1_openClause_14 : decode i_X1_openClause.2.1 14 = .ok (.iconst 0, 1) := by decide +kernel
theorem d_X1_openClause_15 : decode i_X1_openClause.2.1 15 = .ok (.istore_n 2, 1) := by decide +kernel
theorem d_X1_openClause_16 : decode i_X1_openClause.2.1 16 = .ok (.iload_n 1, 1) := by decide +kernel
theorem d_X1_openClause_17 : decode i_X1_openClause.2.1 17 = .ok (.bipush 114, 2) := by decide +kernel
theorem d_X1_openClause_19 : decode i_X1_openClause.2.1 19 = .ok (.if_icmp .eq 15, 3) := by decide +kernel
theorem d_X1_openClause_22 : decode i_X1_openClause.2.1 22 = .ok (.iload_n 1, 1) := by decide +kernel
theorem d_X1_openClause_23 : decode i_X1_openClause.2.1 23 = .ok (.bipush 119, 2) := by decide +kernel
theorem d_X1_openClause_25 : decode i_X1_openClause.2.1 25 = .ok (.if_icmp .ne 7, 3) := by decide +kernel
theorem d_X1_openClause_28 : decode i_X1_openClause.2.1 28 = .ok (.iload_n 2, 1) := by decide +kernel
theorem d_X1_openClause_29 : decode i_X1_openClause.2.1 29 = .ok (.ifCond .ne 5, 3) := by decide +kernel
theorem d_X1_openClause_32 : decode i_X1_openClause.2.1 32 = .ok (.iconst 1, 1) := by decide +kernel
theorem d_X1_openClause_33 : decode i_X1_openClause.2.1 33 = .ok (.ireturn, 1) := by decide +kernel
theorem d_X1_openClause_34 : decode i_X1_openClause.2.1 34 = .ok (.iload_n 1, 1) := by decide +kernel
theorem d_X1_openClause_35 : decode i_X1_openClause.2.1 35 = .ok (.bipush 119, 2) := by decide +kernel
theorem d_X1_openClause_37 : decode i_X1_openClause.2.1 37 = .ok (.if_icmp .ne 17, 3) := by decide +kernel
theorem d_X1_openClause_40 : decode i_X1_openClause.2.1 40 = .ok (.aload_n 0, 1) := by decide +kernel
theorem d_X1_openClause_41 : decode i_X1_openClause.2.1 41 = .ok (.aload_n 0, 1) := by decide +kernel
theorem d_X1_openClause_42 : decode i_X1_openClause.2.1 42 = .ok (.getfield 27, 3) := by decide +kernel
theorem d_X1_openClause_45 : decode i_X1_openClause.2.1 45 = .ok (.invokevirtual 61, 3) := by decide +kernel
theorem d_X1_openClause_48 : decode i_X1_openClause.2.1 48 = .ok (.putfield 40, 3) := by decide +kernel
theorem d_X1_openClause_51 : decode i_X1_openClause.2.1 51 = .ok (.goto 15, 3) := by decide +kernel
theorem d_X1_openClause_54 : decode i_X1_openClause.2.1 54 = .ok (.iload_n 2, 1) := by decide +kernel
theorem d_X1_openClause_55 : decode i_X1_openClause.2.1 55 = .ok (.ifCond .ne 11, 3) := by decide +kernel
theorem d_X1_openClause_58 : decode i_X1_openClause.2.1 58 = .ok (.aload_n 0, 1) := by decide +kernel
theorem d_X1_openClause_59 : decode i_X1_openClause.2.1 59 = .ok (.aload_n 0, 1) := by decide +kernel
theorem d_X1_openClause_60 : decode i_X1_openClause.2.1 60 = .ok (.getfield 20, 3) := by decide +kernel
theorem d_X1_openClause_63 : decode i_X1_openClause.2.1 63 = .ok (.putfield 40, 3) := by decide +kernel
theorem d_X1_openClause_66 : decode i_X1_openClause.2.1 66 = .ok (.aload_n 0, 1) := by decide +kernel
theorem d_X1_openClause_67 : decode i_X1_openClause.2.1 67 = .ok (.getfield 40, 3) := by decide +kernel
theorem d_X1_openClause_70 : decode i_X1_openClause.2.1 70 = .ok (.ifnonnull 7, 3) := by decide +kernel
theorem d_X1_openClause_73 : decode i_X1_openClause.2.1 73 = .ok (.iconst 3, 1) := by decide +kernel
theorem d_X1_openClause_74 : decode i_X1_openClause.2.1 74 = .ok (.goto 4, 3) := by decide +kernel
theorem d_X1_openClause_77 : decode i_X1_openClause.2.1 77 = .ok (.iconst 0, 1) := by decide +kernel
theorem d_X1_openClause_78 : decode i_X1_openClause.2.1 78 = .ok (.ireturn, 1) := by decide +kernel
def J_X1_openClause_66 (x0 : Nat) (h : Hp) (Q : Int → Hp → Prop) : Prop :=
  hK h x0 = 1 ∧ ((hR h x0 6 ≠ 0 → (Q 0 h)) ∧ (¬ hR h x0 6 ≠ 0 → (Q 3 h)))
theorem GJ_X1_openClause_66 (x0 : Nat) (h : Hp) (Q : Int → Hp → Prop) (hV : J_X1_openClause_66 x0 h Q) : Go i_X1_openClause 66 [(0, .inr (.inr x0))] [] h (qI Q) := by
  unfold J_X1_openClause_66 at hV
  refine s_aload_n d_X1_openClause_66 rfl (ma 0 rfl) ?_
  obtain ⟨o, hV⟩ := hV
  refine f_RX1_40g rfl d_X1_openClause_67 o ?_
  refine s_ifnonnull (tgt := 77) d_X1_openClause_70 (by decide) (fun c => ?_) (fun c => ?_)
  · have hV := hV.1 c
    refine s_iconst d_X1_openClause_77 (okn rfl) ?_
    exact s_iret d_X1_openClause_78 rfl rfl ⟨_, rfl, hV⟩
  · have hV := hV.2 c
    refine s_iconst d_X1_openClause_73 (okn rfl) ?_
    refine s_goto (tgt := 78) d_X1_openClause_74 (by decide) ?_
    exact s_iret d_X1_openClause_78 rfl rfl ⟨_, rfl, hV⟩
def J_X1_openClause_34 (x0 : Nat) (x1 : Int) (x2 : Int) (h : Hp) (Q : Int → Hp → Prop) : Prop :=
  (x1 ≠ 119 → ((x2 ≠ 0 → (J_X1_openClause_66 x0 h Q)) ∧ (x2 = 0 → (hK h x0 = 1 ∧ (hK h x0 = 1 ∧ ∀ h1 : Hp, h1 = wR h x0 6 (hR h x0 1) → (J_X1_openClause_66 x0 h1 Q)))))) ∧ (x1 = 119 → (hK h x0 = 1 ∧ (hK h (hR h x0 2) = 9 ∧ C_X10_open (hR h x0 2)  h (fun r3 h2 => (hK h2 x0 = 1 ∧ ∀ h4 : Hp, h4 = wR h2 x0 6 r3 → (J_X1_openClause_66 x0 h4 Q))))))
theorem GJ_X1_openClause_34 (x0 : Nat) (x1 : Int) (x2 : Int) (h : Hp) (Q : Int → Hp → Prop) (hV : J_X1_openClause_34 x0 x1 x2 h Q) : Go i_X1_openClause 34 [(0, .inr (.inr x0)), (1, .inl x1), (2, .inl x2)] [] h (qI Q) := by
  unfold J_X1_openClause_34 at hV
  refine s_iload_n d_X1_openClause_34 rfl (ma 1 rfl) ?_
  refine s_bipush d_X1_openClause_35 (by decide) (okn rfl) ?_
  refine s_icmp_ne (tgt := 54) d_X1_openClause_37 (by decide) (fun c => ?_) (fun c => ?_)
  · have hV := hV.1 c
    refine s_iload_n d_X1_openClause_54 rfl (ma 2 rfl) ?_
    refine s_if_ne (tgt := 66) d_X1_openClause_55 (by decide) (fun c => ?_) (fun c => ?_)
    · have hV := hV.1 c
      refine s_pick (lv' := [(0, .inr (.inr x0))]) [0] rfl ?_
      exact GJ_X1_openClause_66 _ _ _ hV
    · have hV := hV.2 c
      refine s_aload_n d_X1_openClause_58 rfl (ma 0 rfl) ?_
      refine s_aload_n d_X1_openClause_59 rfl (ma 0 rfl) ?_
      obtain ⟨o, hV⟩ := hV
      refine f_RX1_20g rfl d_X1_openClause_60 o ?_
      obtain ⟨o, hV⟩ := hV
      refine f_RX1_40p rfl d_X1_openClause_63 o (fun h1 eh1 => ?_)
      have hV := hV h1 eh1
      refine s_pick (lv' := [(0, .inr (.inr x0))]) [0] rfl ?_
      exact GJ_X1_openClause_66 _ _ _ hV
  · have hV := hV.2 c
    refine s_aload_n d_X1_openClause_40 rfl (ma 0 rfl) ?_
    refine s_aload_n d_X1_openClause_41 rfl (ma 0 rfl) ?_
    obtain ⟨o, hV⟩ := hV
    refine f_RX1_27g rfl d_X1_openClause_42 o ?_
    obtain ⟨o, hV⟩ := hV
    refine v_RX1_61 rfl (Nat.le_of_ble_eq_true rfl) d_X1_openClause_45 o (Nat.le_of_ble_eq_true rfl) hV (fun r3 h2 hV => ?_)
    obtain ⟨o, hV⟩ := hV
    refine f_RX1_40p rfl d_X1_openClause_48 o (fun h4 eh4 => ?_)
    have hV := hV h4 eh4
    refine s_goto (tgt := 66) d_X1_openClause_51 (by decide) ?_
    refine s_pick (lv' := [(0, .inr (.inr x0))]) [0] rfl ?_
    exact GJ_X1_openClause_66 _ _ _ hV
def J_X1_openClause_15 (x0 : Nat) (x1 : Int) (y0 : Int) (h : Hp) (Q : Int → Hp → Prop) : Prop :=
  (x1 = 114 → (J_X1_openClause_34 x0 x1 y0 h Q)) ∧ (¬ x1 = 114 → ((x1 ≠ 119 → (Q 1 h)) ∧ (x1 = 119 → ((y0 ≠ 0 → (J_X1_openClause_34 x0 x1 y0 h Q)) ∧ (y0 = 0 → (Q 1 h))))))
theorem GJ_X1_openClause_15 (x0 : Nat) (x1 : Int) (y0 : Int) (h : Hp) (Q : Int → Hp → Prop) (hV : J_X1_openClause_15 x0 x1 y0 h Q) : Go i_X1_openClause 15 [(0, .inr (.inr x0)), (1, .inl x1)] [.inl y0] h (qI Q) := by
  unfold J_X1_openClause_15 at hV
  refine s_istore_n (lv' := [(2, .inl y0), (0, .inr (.inr x0)), (1, .inl x1)]) d_X1_openClause_15 rfl (Nat.le_of_ble_eq_true rfl) rfl ?_
  refine s_iload_n d_X1_openClause_16 rfl (ma 2 rfl) ?_
  refine s_bipush d_X1_openClause_17 (by decide) (okn rfl) ?_
  refine s_icmp_eq (tgt := 34) d_X1_openClause_19 (by decide) (fun c => ?_) (fun c => ?_)
  · have hV := hV.1 c
    refine s_pick (lv' := [(0, .inr (.inr x0)), (1, .inl x1), (2, .inl y0)]) [1, 2, 0] rfl ?_
    exact GJ_X1_openClause_34 _ _ _ _ _ hV
  · have hV := hV.2 c
    refine s_iload_n d_X1_openClause_22 rfl (ma 2 rfl) ?_
    refine s_bipush d_X1_openClause_23 (by decide) (okn rfl) ?_
    refine s_icmp_ne (tgt := 32) d_X1_openClause_25 (by decide) (fun c => ?_) (fun c => ?_)
    · have hV := hV.1 c
      refine s_iconst d_X1_openClause_32 (okn rfl) ?_
      exact s_iret d_X1_openClause_33 rfl rfl ⟨_, rfl, hV⟩
    · have hV := hV.2 c
      refine s_iload_n d_X1_openClause_28 rfl (ma 0 rfl) ?_
      refine s_if_ne (tgt := 34) d_X1_openClause_29 (by decide) (fun c => ?_) (fun c => ?_)
      · have hV := hV.1 c
        refine s_pick (lv' := [(0, .inr (.inr x0)), (1, .inl x1), (2, .inl y0)]) [1, 2, 0] rfl ?_
        exact GJ_X1_openClause_34 _ _ _ _ _ hV
      · have hV := hV.2 c
        refine s_iconst d_X1_openClause_32 (okn rfl) ?_
        exact s_iret d_X1_openClause_33 rfl rfl ⟨_, rfl, hV⟩
def V_X1_openClause (x0 : Nat) (x1 : Int) (h : Hp) (Q : Int → Hp → Prop) : Prop :=
  hK h x0 = 1 ∧ (hK h (hR h x0 1) = 2 ∧ ((hI h (hR h x0 1) 1 ≤ 0 → (J_X1_openClause_15 x0 x1 0 h Q)) ∧ (¬ hI h (hR h x0 1) 1 ≤ 0 → (J_X1_openClause_15 x0 x1 1 h Q))))
theorem G_X1_openClause {x0 : Nat} {x1 : Int} (h : Hp) (Q : Int → Hp → Prop) (hV : V_X1_openClause x0 x1 h Q) : C_X1_openClause x0 x1 h Q := by
  unfold V_X1_openClause at hV
  show Go i_X1_openClause 0 [(0, .inr (.inr x0)), (1, .inl x1)] [] h (qI Q)
  refine s_aload_n d_X1_openClause_0 rfl (ma 0 rfl) ?_
  obtain ⟨o, hV⟩ := hV
  refine f_RX1_20g rfl d_X1_openClause_1 o ?_
  obtain ⟨o, hV⟩ := hV
  refine f_RX1_38g rfl d_X1_openClause_4 o ?_
  refine s_if_le (tgt := 14) d_X1_openClause_7 (by decide) (fun c => ?_) (fun c => ?_)
  · have hV := hV.1 c
    refine s_iconst d_X1_openClause_14 (okn rfl) ?_
    exact GJ_X1_openClause_15 _ _ _ _ _ hV
  · have hV := hV.2 c
    refine s_iconst d_X1_openClause_10 (okn rfl) ?_
    refine s_goto (tgt := 15) d_X1_openClause_11 (by decide) ?_
    exact GJ_X1_openClause_15 _ _ _ _ _ hV

theorem d_X1_goOn_0 : decode i_X1_goOn.2.1 0 = .ok (.iload_n 1, 1) := by decide +kernel
theorem d_X1_goOn_1 : decode i_X1_goOn.2.1 1 = .ok (.bipush 48, 2) := by decide +kernel
theorem d_X1_goOn_3 : decode i_X1_goOn.2.1 3 = .ok (.if_icmp .lt 26, 3) := by decide +kernel
theorem d_X1_goOn_6 : decode i_X1_goOn.2.1 6 = .ok (.iload_n 1, 1) := by decide +kernel
theorem d_X1_goOn_7 : decode i_X1_goOn.2.1 7 = .ok (.bipush 57, 2) := by decide +kernel
theorem d_X1_goOn_9 : decode i_X1_goOn.2.1 9 = .ok (.if_icmp .gt 20, 3) := by decide +kernel
theorem d_X1_goOn_12 : decode i_X1_goOn.2.1 12 = .ok (.aload_n 2, 1) := by decide +kernel
theorem d_X1_goOn_13 : decode i_X1_goOn.2.1 13 = .ok (.iload_n 1, 1) := by decide +kernel
theorem d_X1_goOn_14 : decode i_X1_goOn.2.1 14 = .ok (.bipush 48, 2) := by decide +kernel
theorem d_X1_goOn_16 : decode i_X1_goOn.2.1 16 = .ok (.isub, 1) := by decide +kernel
theorem d_X1_goOn_17 : decode i_X1_goOn.2.1 17 = .ok (.invokevirtual 64, 3) := by decide +kernel
theorem d_X1_goOn_20 : decode i_X1_goOn.2.1 20 = .ok (.ifCond .eq 7, 3) := by decide +kernel
theorem d_X1_goOn_23 : decode i_X1_goOn.2.1 23 = .ok (.iconst 0, 1) := by decide +kernel
theorem d_X1_goOn_24 : decode i_X1_goOn.2.1 24 = .ok (.goto 4, 3) := by decide +kernel
theorem d_X1_goOn_27 : decode i_X1_goOn.2.1 27 = .ok (.iconst 2, 1) := by decide +kernel
theorem d_X1_goOn_28 : decode i_X1_goOn.2.1 28 = .ok (.ireturn, 1) := by decide +kernel
theorem d_X1_goOn_29 : decode i_X1_goOn.2.1 29 = .ok (.iload_n 1, 1) := by decide +kernel
theorem d_X1_goOn_30 : decode i_X1_goOn.2.1 30 = .ok (.bipush 59, 2) := by decide +kernel
theorem d_X1_goOn_32 : decode i_X1_goOn.2.1 32 = .ok (.if_icmp .ne 10, 3) := by decide +kernel
theorem d_X1_goOn_35 : decode i_X1_goOn.2.1 35 = .ok (.aload_n 2, 1) := by decide +kernel
theorem d_X1_goOn_36 : decode i_X1_goOn.2.1 36 = .ok (.getfield 38, 3) := by decide +kernel
theorem d_X1_goOn_39 : decode i_X1_goOn.2.1 39 = .ok (.ifCond .ne 5, 3) := by decide +kernel
theorem d_X1_goOn_42 : decode i_X1_goOn.2.1 42 = .ok (.iconst 1, 1) := by decide +kernel
theorem d_X1_goOn_43 : decode i_X1_goOn.2.1 43 = .ok (.ireturn, 1) := by decide +kernel
theorem d_X1_goOn_44 : decode i_X1_goOn.2.1 44 = .ok (.aload_n 0, 1) := by decide +kernel
theorem d_X1_goOn_45 : decode i_X1_goOn.2.1 45 = .ok (.aconst_null, 1) := by decide +kernel
theorem d_X1_goOn_46 : decode i_X1_goOn.2.1 46 = .ok (.putfield 40, 3) := by decide +kernel
theorem d_X1_goOn_49 : decode i_X1_goOn.2.1 49 = .ok (.iconst 0, 1) := by decide +kernel
theorem d_X1_goOn_50 : decode i_X1_goOn.2.1 50 = .ok (.ireturn, 1) := by decide +kernel
def J_X1_goOn_29 (x0 : Nat) (x1 : Int) (x2 : Nat) (h : Hp) (Q : Int → Hp → Prop) : Prop :=
  (x1 ≠ 59 → (Q 1 h)) ∧ (x1 = 59 → (hK h x2 = 2 ∧ ((hI h x2 1 ≠ 0 → (hK h x0 = 1 ∧ ∀ h1 : Hp, h1 = wR h x0 6 0 → (Q 0 h1))) ∧ (hI h x2 1 = 0 → (Q 1 h)))))
theorem GJ_X1_goOn_29 (x0 : Nat) (x1 : Int) (x2 : Nat) (h : Hp) (Q : Int → Hp → Prop) (hV : J_X1_goOn_29 x0 x1 x2 h Q) : Go i_X1_goOn 29 [(0, .inr (.inr x0)), (1, .inl x1), (2, .inr (.inr x2))] [] h (qI Q) := by
  unfold J_X1_goOn_29 at hV
  refine s_iload_n d_X1_goOn_29 rfl (ma 1 rfl) ?_
  refine s_bipush d_X1_goOn_30 (by decide) (okn rfl) ?_
  refine s_icmp_ne (tgt := 42) d_X1_goOn_32 (by decide) (fun c => ?_) (fun c => ?_)
  · have hV := hV.1 c
    refine s_iconst d_X1_goOn_42 (okn rfl) ?_
    exact s_iret d_X1_goOn_43 rfl rfl ⟨_, rfl, hV⟩
  · have hV := hV.2 c
    refine s_aload_n d_X1_goOn_35 rfl (ma 2 rfl) ?_
    obtain ⟨o, hV⟩ := hV
    refine f_RX1_38g rfl d_X1_goOn_36 o ?_
    refine s_if_ne (tgt := 44) d_X1_goOn_39 (by decide) (fun c => ?_) (fun c => ?_)
    · have hV := hV.1 c
      refine s_aload_n d_X1_goOn_44 rfl (ma 0 rfl) ?_
      refine s_null d_X1_goOn_45 ?_
      obtain ⟨o, hV⟩ := hV
      refine f_RX1_40p rfl d_X1_goOn_46 o (fun h1 eh1 => ?_)
      have hV := hV h1 eh1
      refine s_iconst d_X1_goOn_49 (okn rfl) ?_
      exact s_iret d_X1_goOn_50 rfl rfl ⟨_, rfl, hV⟩
    · have hV := hV.2 c
      refine s_iconst d_X1_goOn_42 (okn rfl) ?_
      exact s_iret d_X1_goOn_43 rfl rfl ⟨_, rfl, hV⟩
def V_X1_goOn (x0 : Nat) (x1 : Int) (x2 : Nat) (h : Hp) (Q : Int → Hp → Prop) : Prop :=
  (x1 < 48 → (J_X1_goOn_29 x0 x1 x2 h Q)) ∧ (¬ x1 < 48 → ((57 < x1 → (J_X1_goOn_29 x0 x1 x2 h Q)) ∧ (¬ 57 < x1 → (((-2147483648 : Int) ≤ x1 - 48 ∧ x1 - 48 ≤ (2147483647 : Int)) ∧ (hK h x2 = 2 ∧ C_X2_add x2 (x1 - 48) h (fun r2 h1 => ((r2 = 0 → (Q 2 h1)) ∧ (¬ r2 = 0 → (Q 0 h1)))))))))
theorem G_X1_goOn {x0 : Nat} {x1 : Int} {x2 : Nat} (h : Hp) (Q : Int → Hp → Prop) (hV : V_X1_goOn x0 x1 x2 h Q) : C_X1_goOn x0 x1 x2 h Q := by
  unfold V_X1_goOn at hV
  show Go i_X1_goOn 0 [(0, .inr (.inr x0)), (1, .inl x1), (2, .inr (.inr x2))] [] h (qI Q)
  refine s_iload_n d_X1_goOn_0 rfl (ma 1 rfl) ?_
  refine s_bipush d_X1_goOn_1 (by decide) (okn rfl) ?_
  refine s_icmp_lt (tgt := 29) d_X1_goOn_3 (by decide) (fun c => ?_) (fun c => ?_)
  · have hV := hV.1 c
    exact GJ_X1_goOn_29 _ _ _ _ _ hV
  · have hV := hV.2 c
    refine s_iload_n d_X1_goOn_6 rfl (ma 1 rfl) ?_
    refine s_bipush d_X1_goOn_7 (by decide) (okn rfl) ?_
    refine s_icmp_gt (tgt := 29) d_X1_goOn_9 (by decide) (fun c => ?_) (fun c => ?_)
    · have hV := hV.1 c
      exact GJ_X1_goOn_29 _ _ _ _ _ hV
    · have hV := hV.2 c
      refine s_aload_n d_X1_goOn_12 rfl (ma 2 rfl) ?_
      refine s_iload_n d_X1_goOn_13 rfl (ma 1 rfl) ?_
      refine s_bipush d_X1_goOn_14 (by decide) (okn rfl) ?_
      obtain ⟨o, hV⟩ := hV
      refine s_isub d_X1_goOn_16 o ?_
      obtain ⟨o, hV⟩ := hV
      refine v_RX1_64 rfl (Nat.le_of_ble_eq_true rfl) d_X1_goOn_17 o (Nat.le_of_ble_eq_true rfl) hV (fun r2 h1 hV => ?_)
      refine s_if_eq (tgt := 27) d_X1_goOn_20 (by decide) (fun c => ?_) (fun c => ?_)
      · have hV := hV.1 c
        refine s_iconst d_X1_goOn_27 (okn rfl) ?_
        exact s_iret d_X1_goOn_28 rfl rfl ⟨_, rfl, hV⟩
      · have hV := hV.2 c
        refine s_iconst d_X1_goOn_23 (okn rfl) ?_
        refine s_goto (tgt := 28) d_X1_goOn_24 (by decide) ?_
        exact s_iret d_X1_goOn_28 rfl rfl ⟨_, rfl, hV⟩

theorem d_X3_init_0 : decode i_X3_init.2.1 0 = .ok (.aload_n 0, 1) := by decide +kernel
theorem d_X3_init_1 : decode i_X3_init.2.1 1 = .ok (.invokespecial 3, 3) := by decide +kernel
theorem d_X3_init_4 : decode i_X3_init.2.1 4 = .ok (.aload_n 0, 1) := by decide +kernel
theorem d_X3_init_5 : decode i_X3_init.2.1 5 = .ok (.bipush 6, 2) := by decide +kernel
theorem d_X3_init_7 : decode i_X3_init.2.1 7 = .ok (.newarray .int, 2) := by decide +kernel
theorem d_X3_init_9 : decode i_X3_init.2.1 9 = .ok (.putfield 9, 3) := by decide +kernel
theorem d_X3_init_12 : decode i_X3_init.2.1 12 = .ok (.aload_n 0, 1) := by decide +kernel
theorem d_X3_init_13 : decode i_X3_init.2.1 13 = .ok (.bipush 6, 2) := by decide +kernel
theorem d_X3_init_15 : decode i_X3_init.2.1 15 = .ok (.newarray .int, 2) := by decide +kernel
theorem d_X3_init_17 : decode i_X3_init.2.1 17 = .ok (.putfield 15, 3) := by decide +kernel
theorem d_X3_init_20 : decode i_X3_init.2.1 20 = .ok (.aload_n 0, 1) := by decide +kernel
theorem d_X3_init_21 : decode i_X3_init.2.1 21 = .ok (.bipush 6, 2) := by decide +kernel
theorem d_X3_init_23 : decode i_X3_init.2.1 23 = .ok (.newarray .boolean, 2) := by decide +kernel
theorem d_X3_init_25 : decode i_X3_init.2.1 25 = .ok (.putfield 18, 3) := by decide +kernel
theorem d_X3_init_28 : decode i_X3_init.2.1 28 = .ok (.aload_n 0, 1) := by decide +kernel
theorem d_X3_init_29 : decode i_X3_init.2.1 29 = .ok (.bipush 6, 2) := by decide +kernel
theorem d_X3_init_31 : decode i_X3_init.2.1 31 = .ok (.anewarray 22, 3) := by decide +kernel
theorem d_X3_init_34 : decode i_X3_init.2.1 34 = .ok (.putfield 24, 3) := by decide +kernel
theorem d_X3_init_37 : decode i_X3_init.2.1 37 = .ok (.iconst 0, 1) := by decide +kernel
theorem d_X3_init_38 : decode i_X3_init.2.1 38 = .ok (.istore_n 1, 1) := by decide +kernel
theorem d_X3_init_39 : decode i_X3_init.2.1 39 = .ok (.iload_n 1, 1) := by decide +kernel
theorem d_X3_init_40 : decode i_X3_init.2.1 40 = .ok (.bipush 6, 2) := by decide +kernel
theorem d_X3_init_42 : decode i_X3_init.2.1 42 = .ok (.if_icmp .ge 24, 3) := by decide +kernel
theorem d_X3_init_45 : decode i_X3_init.2.1 45 = .ok (.aload_n 0, 1) := by decide +kernel
theorem d_X3_init_46 : decode i_X3_init.2.1 46 = .ok (.getfield 24, 3) := by decide +kernel
theorem d_X3_init_49 : decode i_X3_init.2.1 49 = .ok (.iload_n 1, 1) := by decide +kernel
theorem d_X3_init_50 : decode i_X3_init.2.1 50 = .ok (.new 22, 3) := by decide +kernel
theorem d_X3_init_53 : decode i_X3_init.2.1 53 = .ok (.dup, 1) := by decide +kernel
theorem d_X3_init_54 : decode i_X3_init.2.1 54 = .ok (.bipush 16, 2) := by decide +kernel
theorem d_X3_init_56 : decode i_X3_init.2.1 56 = .ok (.invokespecial 28, 3) := by decide +kernel
theorem d_X3_init_59 : decode i_X3_init.2.1 59 = .ok (.aastore, 1) := by decide +kernel
theorem d_X3_init_60 : decode i_X3_init.2.1 60 = .ok (.iinc 1 1, 3) := by decide +kernel
theorem d_X3_init_63 : decode i_X3_init.2.1 63 = .ok (.goto (-24), 3) := by decide +kernel
theorem d_X3_init_66 : decode i_X3_init.2.1 66 = .ok (.return_, 1) := by decide +kernel
def BLp_X3_init_39 (x0 : Nat) (P39 : Int → Hp → Prop) (x1 : Int) (h : Hp) (Q : Hp → Prop) : Prop :=
  (6 ≤ x1 → (Q h)) ∧ (¬ 6 ≤ x1 → (hK h x0 = 3 ∧ (∀ n1 : Nat, n1 = hN h → ∀ h2 : Hp, h2 = al h 2 0 2 → (hK h2 n1 = 2 ∧ C_X2_init n1 16 h2 (fun h3 => ((hK h3 (hR h x0 3) = 16 ∧ (0 : Int) ≤ x1 ∧ x1 < hL h3 (hR h x0 3) ∧ hK h3 n1 = 2) ∧ ∀ h4 : Hp, h4 = wR h3 (hR h x0 3) x1 n1 → (((-2147483648 : Int) ≤ x1 + 1 ∧ x1 + 1 ≤ (2147483647 : Int)) ∧ (P39 (x1 + 1) h4))))))))
def Lp_X3_init_39 (x0 : Nat) (x1 : Int) (h : Hp) (Q : Hp → Prop) : Prop := ∀ P39 : Int → Hp → Prop, (∀ (x1 : Int) (h : Hp), BLp_X3_init_39 x0 P39 x1 h Q → P39 x1 h) → P39 x1 h
theorem Lp_X3_init_39_ind {x0 : Nat} {Q : Hp → Prop} (I : Int → Hp → Prop) (μ : Int → Hp → Nat) (hs : ∀ (P39 : Int → Hp → Prop) (x1 : Int) (h : Hp), I x1 h → (∀ (x1' : Int) (h' : Hp), I x1' h' → μ x1' h' < μ x1 h → P39 x1' h') → BLp_X3_init_39 x0 P39 x1 h Q) : ∀ (x1 : Int) (h : Hp), I x1 h → Lp_X3_init_39 x0 x1 h Q := by
  intro x1 h hI P39 hP
  have key : ∀ (n : Nat) (x1 : Int) (h : Hp), I x1 h → μ x1 h < n → P39 x1 h := by
    intro n
    induction n with
    | zero => intro x1 h _ hl; exact absurd hl (Nat.not_lt_zero _)
    | succ n ih => intro x1 h hi hl; exact hP x1 h (hs P39 x1 h hi (fun x1 h' hi' hl' => ih x1 h' hi' (by omega)))
  exact key _ x1 h hI (Nat.lt_succ_self _)
theorem GLp_X3_init_39 (x0 : Nat) (x1 : Int) (h : Hp) (Q : Hp → Prop) (hV : Lp_X3_init_39 x0 x1 h Q) : Go i_X3_init 39 [(0, .inr (.inr x0)), (1, .inl x1)] [] h (qV Q) := by
  refine hV (fun x1 h => Go i_X3_init 39 [(0, .inr (.inr x0)), (1, .inl x1)] [] h (qV Q)) (fun x1 h hV => ?_)
  unfold BLp_X3_init_39 at hV
  have hP39 : ∀ (x1 : Int) (h : Hp), Go i_X3_init 39 [(0, .inr (.inr x0)), (1, .inl x1)] [] h (qV Q) → Go i_X3_init 39 [(0, .inr (.inr x0)), (1, .inl x1)] [] h (qV Q) := fun _ h z => z
  refine s_iload_n d_X3_init_39 rfl (ma 1 rfl) ?_
  refine s_bipush d_X3_init_40 (by decide) (okn rfl) ?_
  refine s_icmp_ge (tgt := 66) d_X3_init_42 (by decide) (fun c => ?_) (fun c => ?_)
  · have hV := hV.1 c
    exact s_vret d_X3_init_66 rfl ⟨rfl, hV⟩
  · have hV := hV.2 c
    refine s_aload_n d_X3_init_45 rfl (ma 0 rfl) ?_
    obtain ⟨o, hV⟩ := hV
    refine f_RX3_24g rfl d_X3_init_46 o ?_
    refine s_iload_n d_X3_init_49 rfl (ma 1 rfl) ?_
    refine s_new (ci := 2) d_X3_init_50 rfl q_RX3_22 ?_
    refine s_nmA (fun n1 en1 => ?_)
    refine s_nmH (fun h2 eh2 => ?_)
    have hV := hV n1 en1 h2 eh2
    refine s_dup d_X3_init_53 rfl ?_
    refine s_bipush d_X3_init_54 (by decide) (okn rfl) ?_
    obtain ⟨o, hV⟩ := hV
    refine v_RX3_28 rfl (Nat.le_of_ble_eq_true rfl) d_X3_init_56 o (Nat.le_of_ble_eq_true rfl) hV (fun h3 hV => ?_)
    obtain ⟨o, hV⟩ := hV
    refine s_aast d_X3_init_59 (Or.inl ⟨o.1, o.2.2.2⟩) o.2.1 o.2.2.1 ?_
    refine s_nmH (fun h4 eh4 => ?_)
    have hV := hV h4 eh4
    obtain ⟨o, hV⟩ := hV
    refine s_iinc (lv' := [(1, .inl (x1 + 1)), (0, .inr (.inr x0))]) d_X3_init_60 (ma 1 rfl) o (Nat.le_of_ble_eq_true rfl) rfl ?_
    refine s_goto (tgt := 39) d_X3_init_63 (by decide) ?_
    refine s_pick (lv' := [(0, .inr (.inr x0)), (1, .inl (x1 + 1))]) [1, 0] rfl ?_
    exact hP39 _ _ hV
def V_X3_init (x0 : Nat) (h : Hp) (Q : Hp → Prop) : Prop :=
  hK h x0 = 3 ∧ (((0 : Int) ≤ 6 ∧ 6 ≤ (100000000 : Int)) ∧ ∀ n1 : Nat, n1 = hN h → ∀ h2 : Hp, h2 = al h 12 6 (Int.toNat 6) → (hK h2 x0 = 3 ∧ ∀ h3 : Hp, h3 = wR h2 x0 0 n1 → (((0 : Int) ≤ 6 ∧ 6 ≤ (100000000 : Int)) ∧ ∀ n4 : Nat, n4 = hN h3 → ∀ h5 : Hp, h5 = al h3 12 6 (Int.toNat 6) → (hK h5 x0 = 3 ∧ ∀ h6 : Hp, h6 = wR h5 x0 1 n4 → (((0 : Int) ≤ 6 ∧ 6 ≤ (100000000 : Int)) ∧ ∀ n7 : Nat, n7 = hN h6 → ∀ h8 : Hp, h8 = al h6 15 6 (Int.toNat 6) → (hK h8 x0 = 3 ∧ ∀ h9 : Hp, h9 = wR h8 x0 2 n7 → (((0 : Int) ≤ 6 ∧ 6 ≤ (100000000 : Int)) ∧ ∀ n10 : Nat, n10 = hN h9 → ∀ h11 : Hp, h11 = al h9 16 6 (Int.toNat 6) → (hK h11 x0 = 3 ∧ ∀ h12 : Hp, h12 = wR h11 x0 3 n10 → (Lp_X3_init_39 x0 0 h12 Q)))))))))
theorem G_X3_init {x0 : Nat} (h : Hp) (Q : Hp → Prop) (hV : V_X3_init x0 h Q) : C_X3_init x0 h Q := by
  unfold V_X3_init at hV
  show Go i_X3_init 0 [(0, .inr (.inr x0))] [] h (qV Q)
  refine s_aload_n d_X3_init_0 rfl (ma 0 rfl) ?_
  obtain ⟨o, hV⟩ := hV
  refine s_objInit d_X3_init_1 ob_RX3_3 (Nat.le_of_ble_eq_true rfl) rfl (by rw [o]; decide) ?_
  refine s_aload_n d_X3_init_4 rfl (ma 0 rfl) ?_
  refine s_bipush d_X3_init_5 (by decide) (okn rfl) ?_
  obtain ⟨o, hV⟩ := hV
  refine s_newi d_X3_init_7 ac_int o.1 o.2 ?_
  refine s_nmA (fun n1 en1 => ?_)
  refine s_nmH (fun h2 eh2 => ?_)
  have hV := hV n1 en1 h2 eh2
  obtain ⟨o, hV⟩ := hV
  refine f_RX3_9p rfl rfl d_X3_init_9 o (fun h3 eh3 => ?_)
  have hV := hV h3 eh3
  refine s_aload_n d_X3_init_12 rfl (ma 0 rfl) ?_
  refine s_bipush d_X3_init_13 (by decide) (okn rfl) ?_
  obtain ⟨o, hV⟩ := hV
  refine s_newi d_X3_init_15 ac_int o.1 o.2 ?_
  refine s_nmA (fun n4 en4 => ?_)
  refine s_nmH (fun h5 eh5 => ?_)
  have hV := hV n4 en4 h5 eh5
  obtain ⟨o, hV⟩ := hV
  refine f_RX3_15p rfl rfl d_X3_init_17 o (fun h6 eh6 => ?_)
  have hV := hV h6 eh6
  refine s_aload_n d_X3_init_20 rfl (ma 0 rfl) ?_
  refine s_bipush d_X3_init_21 (by decide) (okn rfl) ?_
  obtain ⟨o, hV⟩ := hV
  refine s_newz d_X3_init_23 ac_boolean o.1 o.2 ?_
  refine s_nmA (fun n7 en7 => ?_)
  refine s_nmH (fun h8 eh8 => ?_)
  have hV := hV n7 en7 h8 eh8
  obtain ⟨o, hV⟩ := hV
  refine f_RX3_18p rfl rfl d_X3_init_25 o (fun h9 eh9 => ?_)
  have hV := hV h9 eh9
  refine s_aload_n d_X3_init_28 rfl (ma 0 rfl) ?_
  refine s_bipush d_X3_init_29 (by decide) (okn rfl) ?_
  obtain ⟨o, hV⟩ := hV
  refine s_newF d_X3_init_31 q_RX3_22 o.1 o.2 ?_
  refine s_nmA (fun n10 en10 => ?_)
  refine s_nmH (fun h11 eh11 => ?_)
  have hV := hV n10 en10 h11 eh11
  obtain ⟨o, hV⟩ := hV
  refine f_RX3_24p rfl rfl d_X3_init_34 o (fun h12 eh12 => ?_)
  have hV := hV h12 eh12
  refine s_iconst d_X3_init_37 (okn rfl) ?_
  refine s_istore_n (lv' := [(1, .inl 0), (0, .inr (.inr x0))]) d_X3_init_38 rfl (Nat.le_of_ble_eq_true rfl) rfl ?_
  refine s_pick (lv' := [(0, .inr (.inr x0)), (1, .inl 0)]) [1, 0] rfl ?_
  exact GLp_X3_init_39 _ _ _ _ hV

theorem d_X3_append_0 : decode i_X3_append.2.1 0 = .ok (.aload_n 0, 1) := by decide +kernel
theorem d_X3_append_1 : decode i_X3_append.2.1 1 = .ok (.getfield 31, 3) := by decide +kernel
theorem d_X3_append_4 : decode i_X3_append.2.1 4 = .ok (.bipush 6, 2) := by decide +kernel
theorem d_X3_append_6 : decode i_X3_append.2.1 6 = .ok (.if_icmp .lt 5, 3) := by decide +kernel
theorem d_X3_append_9 : decode i_X3_append.2.1 9 = .ok (.iconst 0, 1) := by decide +kernel
theorem d_X3_append_10 : decode i_X3_append.2.1 10 = .ok (.ireturn, 1) := by decide +kernel
theorem d_X3_append_11 : decode i_X3_append.2.1 11 = .ok (.aload_n 0, 1) := by decide +kernel
theorem d_X3_append_12 : decode i_X3_append.2.1 12 = .ok (.getfield 9, 3) := by decide +kernel
theorem d_X3_append_15 : decode i_X3_append.2.1 15 = .ok (.aload_n 0, 1) := by decide +kernel
theorem d_X3_append_16 : decode i_X3_append.2.1 16 = .ok (.getfield 31, 3) := by decide +kernel
theorem d_X3_append_19 : decode i_X3_append.2.1 19 = .ok (.iload_n 1, 1) := by decide +kernel
theorem d_X3_append_20 : decode i_X3_append.2.1 20 = .ok (.iastore, 1) := by decide +kernel
theorem d_X3_append_21 : decode i_X3_append.2.1 21 = .ok (.aload_n 0, 1) := by decide +kernel
theorem d_X3_append_22 : decode i_X3_append.2.1 22 = .ok (.getfield 15, 3) := by decide +kernel
theorem d_X3_append_25 : decode i_X3_append.2.1 25 = .ok (.aload_n 0, 1) := by decide +kernel
theorem d_X3_append_26 : decode i_X3_append.2.1 26 = .ok (.getfield 31, 3) := by decide +kernel
theorem d_X3_append_29 : decode i_X3_append.2.1 29 = .ok (.iload_n 2, 1) := by decide +kernel
theorem d_X3_append_30 : decode i_X3_append.2.1 30 = .ok (.iastore, 1) := by decide +kernel
theorem d_X3_append_31 : decode i_X3_append.2.1 31 = .ok (.aload_n 0, 1) := by decide +kernel
theorem d_X3_append_32 : decode i_X3_append.2.1 32 = .ok (.getfield 18, 3) := by decide +kernel
theorem d_X3_append_35 : decode i_X3_append.2.1 35 = .ok (.aload_n 0, 1) := by decide +kernel
theorem d_X3_append_36 : decode i_X3_append.2.1 36 = .ok (.getfield 31, 3) := by decide +kernel
theorem d_X3_append_39 : decode i_X3_append.2.1 39 = .ok (.iload_n 3, 1) := by decide +kernel
theorem d_X3_append_40 : decode i_X3_append.2.1 40 = .ok (.bastore, 1) := by decide +kernel
theorem d_X3_append_41 : decode i_X3_append.2.1 41 = .ok (.aload_n 0, 1) := by decide +kernel
theorem d_X3_append_42 : decode i_X3_append.2.1 42 = .ok (.dup, 1) := by decide +kernel
theorem d_X3_append_43 : decode i_X3_append.2.1 43 = .ok (.getfield 31, 3) := by decide +kernel
theorem d_X3_append_46 : decode i_X3_append.2.1 46 = .ok (.iconst 1, 1) := by decide +kernel
theorem d_X3_append_47 : decode i_X3_append.2.1 47 = .ok (.iadd, 1) := by decide +kernel
theorem d_X3_append_48 : decode i_X3_append.2.1 48 = .ok (.putfield 31, 3) := by decide +kernel
theorem d_X3_append_51 : decode i_X3_append.2.1 51 = .ok (.iconst 1, 1) := by decide +kernel
theorem d_X3_append_52 : decode i_X3_append.2.1 52 = .ok (.ireturn, 1) := by decide +kernel
def V_X3_append (x0 : Nat) (x1 : Int) (x2 : Int) (x3 : Int) (h : Hp) (Q : Int → Hp → Prop) : Prop :=
  hK h x0 = 3 ∧ ((hI h x0 4 < 6 → (hK h x0 = 3 ∧ (hK h x0 = 3 ∧ ((hK h (hR h x0 0) = 12 ∧ (0 : Int) ≤ hI h x0 4 ∧ hI h x0 4 < hL h (hR h x0 0)) ∧ ∀ h1 : Hp, h1 = wI h (hR h x0 0) (hI h x0 4) x1 → (hK h1 x0 = 3 ∧ (hK h1 x0 = 3 ∧ ((hK h1 (hR h1 x0 1) = 12 ∧ (0 : Int) ≤ hI h1 x0 4 ∧ hI h1 x0 4 < hL h1 (hR h1 x0 1)) ∧ ∀ h2 : Hp, h2 = wI h1 (hR h1 x0 1) (hI h1 x0 4) x2 → (hK h2 x0 = 3 ∧ (hK h2 x0 = 3 ∧ ((hK h2 (hR h2 x0 2) = 15 ∧ (0 : Int) ≤ hI h2 x0 4 ∧ hI h2 x0 4 < hL h2 (hR h2 x0 2) ∧ ((x3 : Int) = 0 ∨ (x3 : Int) = 1)) ∧ ∀ h3 : Hp, h3 = wI h2 (hR h2 x0 2) (hI h2 x0 4) x3 → (hK h3 x0 = 3 ∧ (((-2147483648 : Int) ≤ (hI h3 x0 4) + 1 ∧ (hI h3 x0 4) + 1 ≤ (2147483647 : Int)) ∧ (hK h3 x0 = 3 ∧ ∀ h4 : Hp, h4 = wI h3 x0 4 ((hI h3 x0 4) + 1) → (Q 1 h4)))))))))))))) ∧ (¬ hI h x0 4 < 6 → (Q 0 h)))
theorem G_X3_append {x0 : Nat} {x1 : Int} {x2 : Int} {x3 : Int} (h : Hp) (Q : Int → Hp → Prop) (hV : V_X3_append x0 x1 x2 x3 h Q) : C_X3_append x0 x1 x2 x3 h Q := by
  unfold V_X3_append at hV
  show Go i_X3_append 0 [(0, .inr (.inr x0)), (1, .inl x1), (2, .inl x2), (3, .inl x3)] [] h (qI Q)
  refine s_aload_n d_X3_append_0 rfl (ma 0 rfl) ?_
  obtain ⟨o, hV⟩ := hV
  refine f_RX3_31g rfl d_X3_append_1 o ?_
  refine s_bipush d_X3_append_4 (by decide) (okn rfl) ?_
  refine s_icmp_lt (tgt := 11) d_X3_append_6 (by decide) (fun c => ?_) (fun c => ?_)
  · have hV := hV.1 c
    refine s_aload_n d_X3_append_11 rfl (ma 0 rfl) ?_
    obtain ⟨o, hV⟩ := hV
    refine f_RX3_9g rfl d_X3_append_12 o ?_
    refine s_aload_n d_X3_append_15 rfl (ma 0 rfl) ?_
    obtain ⟨o, hV⟩ := hV
    refine f_RX3_31g rfl d_X3_append_16 o ?_
    refine s_iload_n d_X3_append_19 rfl (ma 1 rfl) ?_
    obtain ⟨o, hV⟩ := hV
    refine s_iast d_X3_append_20 o.1 o.2.1 o.2.2 ?_
    refine s_nmH (fun h1 eh1 => ?_)
    have hV := hV h1 eh1
    refine s_aload_n d_X3_append_21 rfl (ma 0 rfl) ?_
    obtain ⟨o, hV⟩ := hV
    refine f_RX3_15g rfl d_X3_append_22 o ?_
    refine s_aload_n d_X3_append_25 rfl (ma 0 rfl) ?_
    obtain ⟨o, hV⟩ := hV
    refine f_RX3_31g rfl d_X3_append_26 o ?_
    refine s_iload_n d_X3_append_29 rfl (ma 2 rfl) ?_
    obtain ⟨o, hV⟩ := hV
    refine s_iast d_X3_append_30 o.1 o.2.1 o.2.2 ?_
    refine s_nmH (fun h2 eh2 => ?_)
    have hV := hV h2 eh2
    refine s_aload_n d_X3_append_31 rfl (ma 0 rfl) ?_
    obtain ⟨o, hV⟩ := hV
    refine f_RX3_18g rfl d_X3_append_32 o ?_
    refine s_aload_n d_X3_append_35 rfl (ma 0 rfl) ?_
    obtain ⟨o, hV⟩ := hV
    refine f_RX3_31g rfl d_X3_append_36 o ?_
    refine s_iload_n d_X3_append_39 rfl (ma 3 rfl) ?_
    obtain ⟨o, hV⟩ := hV
    refine s_zast d_X3_append_40 o.1 o.2.1 o.2.2.1 o.2.2.2 ?_
    refine s_nmH (fun h3 eh3 => ?_)
    have hV := hV h3 eh3
    refine s_aload_n d_X3_append_41 rfl (ma 0 rfl) ?_
    refine s_dup d_X3_append_42 rfl ?_
    obtain ⟨o, hV⟩ := hV
    refine f_RX3_31g rfl d_X3_append_43 o ?_
    refine s_iconst d_X3_append_46 (okn rfl) ?_
    obtain ⟨o, hV⟩ := hV
    refine s_iadd d_X3_append_47 o ?_
    obtain ⟨o, hV⟩ := hV
    refine f_RX3_31p rfl d_X3_append_48 o (fun h4 eh4 => ?_)
    have hV := hV h4 eh4
    refine s_iconst d_X3_append_51 (okn rfl) ?_
    exact s_iret d_X3_append_52 rfl (nar_z (Or.inr rfl)) ⟨_, rfl, hV⟩
  · have hV := hV.2 c
    refine s_iconst d_X3_append_9 (okn rfl) ?_
    exact s_iret d_X3_append_10 rfl (nar_z (Or.inl rfl)) ⟨_, rfl, hV⟩

theorem d_X3_kindsThatFit_0 : decode i_X3_kindsThatFit.2.1 0 = .ok (.iconst 0, 1) := by decide +kernel
theorem d_X3_kindsThatFit_1 : decode i_X3_kindsThatFit.2.1 1 = .ok (.istore_n 2, 1) := by decide +kernel
theorem d_X3_kindsThatFit_2 : decode i_X3_kindsThatFit.2.1 2 = .ok (.iconst 0, 1) := by decide +kernel
theorem d_X3_kindsThatFit_3 : decode i_X3_kindsThatFit.2.1 3 = .ok (.istore_n 3, 1) := by decide +kernel
theorem d_X3_kindsThatFit_4 : decode i_X3_kindsThatFit.2.1 4 = .ok (.iload_n 3, 1) := by decide +kernel
theorem d_X3_kindsThatFit_5 : decode i_X3_kindsThatFit.2.1 5 = .ok (.bipush 6, 2) := by decide +kernel
theorem d_X3_kindsThatFit_7 : decode i_X3_kindsThatFit.2.1 7 = .ok (.if_icmp .ge 24, 3) := by decide +kernel
theorem d_X3_kindsThatFit_10 : decode i_X3_kindsThatFit.2.1 10 = .ok (.aload_n 0, 1) := by decide +kernel
theorem d_X3_kindsThatFit_11 : decode i_X3_kindsThatFit.2.1 11 = .ok (.iload_n 3, 1) := by decide +kernel
theorem d_X3_kindsThatFit_12 : decode i_X3_kindsThatFit.2.1 12 = .ok (.aload_n 1, 1) := by decide +kernel
theorem d_X3_kindsThatFit_13 : decode i_X3_kindsThatFit.2.1 13 = .ok (.invokevirtual 35, 3) := by decide +kernel
theorem d_X3_kindsThatFit_16 : decode i_X3_kindsThatFit.2.1 16 = .ok (.ifCond .eq 9, 3) := by decide +kernel
theorem d_X3_kindsThatFit_19 : decode i_X3_kindsThatFit.2.1 19 = .ok (.iload_n 2, 1) := by decide +kernel
theorem d_X3_kindsThatFit_20 : decode i_X3_kindsThatFit.2.1 20 = .ok (.iconst 1, 1) := by decide +kernel
theorem d_X3_kindsThatFit_21 : decode i_X3_kindsThatFit.2.1 21 = .ok (.iload_n 3, 1) := by decide +kernel
theorem d_X3_kindsThatFit_22 : decode i_X3_kindsThatFit.2.1 22 = .ok (.ishl, 1) := by decide +kernel
theorem d_X3_kindsThatFit_23 : decode i_X3_kindsThatFit.2.1 23 = .ok (.ior, 1) := by decide +kernel
theorem d_X3_kindsThatFit_24 : decode i_X3_kindsThatFit.2.1 24 = .ok (.istore_n 2, 1) := by decide +kernel
theorem d_X3_kindsThatFit_25 : decode i_X3_kindsThatFit.2.1 25 = .ok (.iinc 3 1, 3) := by decide +kernel
theorem d_X3_kindsThatFit_28 : decode i_X3_kindsThatFit.2.1 28 = .ok (.goto (-24), 3) := by decide +kernel
theorem d_X3_kindsThatFit_31 : decode i_X3_kindsThatFit.2.1 31 = .ok (.iload_n 2, 1) := by decide +kernel
theorem d_X3_kindsThatFit_32 : decode i_X3_kindsThatFit.2.1 32 = .ok (.ireturn, 1) := by decide +kernel
def BLp_X3_kindsThatFit_4 (x0 : Nat) (x1 : Nat) (P4 : Int → Int → Hp → Prop) (x2 : Int) (x3 : Int) (h : Hp) (Q : Int → Hp → Prop) : Prop :=
  (6 ≤ x3 → (Q x2 h)) ∧ (¬ 6 ≤ x3 → (hK h x0 = 3 ∧ C_X3_fits x0 x3 x1 h (fun r2 h1 => ((r2 = 0 → (((-2147483648 : Int) ≤ x3 + 1 ∧ x3 + 1 ≤ (2147483647 : Int)) ∧ (P4 x2 (x3 + 1) h1))) ∧ (¬ r2 = 0 → (∀ x2_3 : Int, x2_3 = zOr x2 (zShl 1 x3) → (((-2147483648 : Int) ≤ x3 + 1 ∧ x3 + 1 ≤ (2147483647 : Int)) ∧ (P4 x2_3 (x3 + 1) h1))))))))
def Lp_X3_kindsThatFit_4 (x0 : Nat) (x1 : Nat) (x2 : Int) (x3 : Int) (h : Hp) (Q : Int → Hp → Prop) : Prop := ∀ P4 : Int → Int → Hp → Prop, (∀ (x2 : Int) (x3 : Int) (h : Hp), BLp_X3_kindsThatFit_4 x0 x1 P4 x2 x3 h Q → P4 x2 x3 h) → P4 x2 x3 h
theorem Lp_X3_kindsThatFit_4_ind {x0 : Nat} {x1 : Nat} {Q : Int → Hp → Prop} (I : Int → Int → Hp → Prop) (μ : Int → Int → Hp → Nat) (hs : ∀ (P4 : Int → Int → Hp → Prop) (x2 : Int) (x3 : Int) (h : Hp), I x2 x3 h → (∀ (x2' : Int) (x3' : Int) (h' : Hp), I x2' x3' h' → μ x2' x3' h' < μ x2 x3 h → P4 x2' x3' h') → BLp_X3_kindsThatFit_4 x0 x1 P4 x2 x3 h Q) : ∀ (x2 : Int) (x3 : Int) (h : Hp), I x2 x3 h → Lp_X3_kindsThatFit_4 x0 x1 x2 x3 h Q := by
  intro x2 x3 h hI P4 hP
  have key : ∀ (n : Nat) (x2 : Int) (x3 : Int) (h : Hp), I x2 x3 h → μ x2 x3 h < n → P4 x2 x3 h := by
    intro n
    induction n with
    | zero => intro x2 x3 h _ hl; exact absurd hl (Nat.not_lt_zero _)
    | succ n ih => intro x2 x3 h hi hl; exact hP x2 x3 h (hs P4 x2 x3 h hi (fun x2 x3 h' hi' hl' => ih x2 x3 h' hi' (by omega)))
  exact key _ x2 x3 h hI (Nat.lt_succ_self _)
theorem GLp_X3_kindsThatFit_4 (x0 : Nat) (x1 : Nat) (x2 : Int) (x3 : Int) (h : Hp) (Q : Int → Hp → Prop) (hV : Lp_X3_kindsThatFit_4 x0 x1 x2 x3 h Q) : Go i_X3_kindsThatFit 4 [(0, .inr (.inr x0)), (1, .inr (.inr x1)), (2, .inl x2), (3, .inl x3)] [] h (qI Q) := by
  refine hV (fun x2 x3 h => Go i_X3_kindsThatFit 4 [(0, .inr (.inr x0)), (1, .inr (.inr x1)), (2, .inl x2), (3, .inl x3)] [] h (qI Q)) (fun x2 x3 h hV => ?_)
  unfold BLp_X3_kindsThatFit_4 at hV
  have hP4 : ∀ (x2 : Int) (x3 : Int) (h : Hp), Go i_X3_kindsThatFit 4 [(0, .inr (.inr x0)), (1, .inr (.inr x1)), (2, .inl x2), (3, .inl x3)] [] h (qI Q) → Go i_X3_kindsThatFit 4 [(0, .inr (.inr x0)), (1, .inr (.inr x1)), (2, .inl x2), (3, .inl x3)] [] h (qI Q) := fun _ _ h z => z
  refine s_iload_n d_X3_kindsThatFit_4 rfl (ma 3 rfl) ?_
  refine s_bipush d_X3_kindsThatFit_5 (by decide) (okn rfl) ?_
  refine s_icmp_ge (tgt := 31) d_X3_kindsThatFit_7 (by decide) (fun c => ?_) (fun c => ?_)
  · have hV := hV.1 c
    refine s_iload_n d_X3_kindsThatFit_31 rfl (ma 2 rfl) ?_
    exact s_iret d_X3_kindsThatFit_32 rfl rfl ⟨_, rfl, hV⟩
  · have hV := hV.2 c
    refine s_aload_n d_X3_kindsThatFit_10 rfl (ma 0 rfl) ?_
    refine s_iload_n d_X3_kindsThatFit_11 rfl (ma 3 rfl) ?_
    refine s_aload_n d_X3_kindsThatFit_12 rfl (ma 1 rfl) ?_
    obtain ⟨o, hV⟩ := hV
    refine v_RX3_35 rfl (Nat.le_of_ble_eq_true rfl) d_X3_kindsThatFit_13 o (Nat.le_of_ble_eq_true rfl) hV (fun r2 h1 hV => ?_)
    refine s_if_eq (tgt := 25) d_X3_kindsThatFit_16 (by decide) (fun c => ?_) (fun c => ?_)
    · have hV := hV.1 c
      obtain ⟨o, hV⟩ := hV
      refine s_iinc (lv' := [(3, .inl (x3 + 1)), (0, .inr (.inr x0)), (1, .inr (.inr x1)), (2, .inl x2)]) d_X3_kindsThatFit_25 (ma 3 rfl) o (Nat.le_of_ble_eq_true rfl) rfl ?_
      refine s_goto (tgt := 4) d_X3_kindsThatFit_28 (by decide) ?_
      refine s_pick (lv' := [(0, .inr (.inr x0)), (1, .inr (.inr x1)), (2, .inl x2), (3, .inl (x3 + 1))]) [1, 2, 3, 0] rfl ?_
      exact hP4 _ _ _ hV
    · have hV := hV.2 c
      refine s_iload_n d_X3_kindsThatFit_19 rfl (ma 2 rfl) ?_
      refine s_iconst d_X3_kindsThatFit_20 (okn rfl) ?_
      refine s_iload_n d_X3_kindsThatFit_21 rfl (ma 3 rfl) ?_
      refine s_ishl d_X3_kindsThatFit_22 ?_
      refine s_ior d_X3_kindsThatFit_23 ?_
      refine s_nmI (fun x2_3 ex2_3 => ?_)
      have hV := hV x2_3 ex2_3
      refine s_istore_n (lv' := [(2, .inl x2_3), (0, .inr (.inr x0)), (1, .inr (.inr x1)), (3, .inl x3)]) d_X3_kindsThatFit_24 rfl (Nat.le_of_ble_eq_true rfl) rfl ?_
      obtain ⟨o, hV⟩ := hV
      refine s_iinc (lv' := [(3, .inl (x3 + 1)), (2, .inl x2_3), (0, .inr (.inr x0)), (1, .inr (.inr x1))]) d_X3_kindsThatFit_25 (ma 3 rfl) o (Nat.le_of_ble_eq_true rfl) rfl ?_
      refine s_goto (tgt := 4) d_X3_kindsThatFit_28 (by decide) ?_
      refine s_pick (lv' := [(0, .inr (.inr x0)), (1, .inr (.inr x1)), (2, .inl x2_3), (3, .inl (x3 + 1))]) [2, 3, 1, 0] rfl ?_
      exact hP4 _ _ _ hV
def V_X3_kindsThatFit (x0 : Nat) (x1 : Nat) (h : Hp) (Q : Int → Hp → Prop) : Prop :=
  Lp_X3_kindsThatFit_4 x0 x1 0 0 h Q
theorem G_X3_kindsThatFit {x0 : Nat} {x1 : Nat} (h : Hp) (Q : Int → Hp → Prop) (hV : V_X3_kindsThatFit x0 x1 h Q) : C_X3_kindsThatFit x0 x1 h Q := by
  unfold V_X3_kindsThatFit at hV
  show Go i_X3_kindsThatFit 0 [(0, .inr (.inr x0)), (1, .inr (.inr x1))] [] h (qI Q)
  refine s_iconst d_X3_kindsThatFit_0 (okn rfl) ?_
  refine s_istore_n (lv' := [(2, .inl 0), (0, .inr (.inr x0)), (1, .inr (.inr x1))]) d_X3_kindsThatFit_1 rfl (Nat.le_of_ble_eq_true rfl) rfl ?_
  refine s_iconst d_X3_kindsThatFit_2 (okn rfl) ?_
  refine s_istore_n (lv' := [(3, .inl 0), (2, .inl 0), (0, .inr (.inr x0)), (1, .inr (.inr x1))]) d_X3_kindsThatFit_3 rfl (Nat.le_of_ble_eq_true rfl) rfl ?_
  refine s_pick (lv' := [(0, .inr (.inr x0)), (1, .inr (.inr x1)), (2, .inl 0), (3, .inl 0)]) [2, 3, 1, 0] rfl ?_
  exact GLp_X3_kindsThatFit_4 _ _ _ _ _ _ hV

theorem d_X3_fits_0 : decode i_X3_fits.2.1 0 = .ok (.iconst 0, 1) := by decide +kernel
theorem d_X3_fits_1 : decode i_X3_fits.2.1 1 = .ok (.istore_n 3, 1) := by decide +kernel
theorem d_X3_fits_2 : decode i_X3_fits.2.1 2 = .ok (.iload_n 3, 1) := by decide +kernel
theorem d_X3_fits_3 : decode i_X3_fits.2.1 3 = .ok (.aload_n 0, 1) := by decide +kernel
theorem d_X3_fits_4 : decode i_X3_fits.2.1 4 = .ok (.getfield 31, 3) := by decide +kernel
theorem d_X3_fits_7 : decode i_X3_fits.2.1 7 = .ok (.if_icmp .ge 77, 3) := by decide +kernel
theorem d_X3_fits_10 : decode i_X3_fits.2.1 10 = .ok (.aload_n 2, 1) := by decide +kernel
theorem d_X3_fits_11 : decode i_X3_fits.2.1 11 = .ok (.aload_n 0, 1) := by decide +kernel
theorem d_X3_fits_12 : decode i_X3_fits.2.1 12 = .ok (.getfield 9, 3) := by decide +kernel
theorem d_X3_fits_15 : decode i_X3_fits.2.1 15 = .ok (.iload_n 3, 1) := by decide +kernel
theorem d_X3_fits_16 : decode i_X3_fits.2.1 16 = .ok (.iaload, 1) := by decide +kernel
theorem d_X3_fits_17 : decode i_X3_fits.2.1 17 = .ok (.invokevirtual 39, 3) := by decide +kernel
theorem d_X3_fits_20 : decode i_X3_fits.2.1 20 = .ok (.astore 4, 2) := by decide +kernel
theorem d_X3_fits_22 : decode i_X3_fits.2.1 22 = .ok (.aload_n 2, 1) := by decide +kernel
theorem d_X3_fits_23 : decode i_X3_fits.2.1 23 = .ok (.aload_n 0, 1) := by decide +kernel
theorem d_X3_fits_24 : decode i_X3_fits.2.1 24 = .ok (.getfield 15, 3) := by decide +kernel
theorem d_X3_fits_27 : decode i_X3_fits.2.1 27 = .ok (.iload_n 3, 1) := by decide +kernel
theorem d_X3_fits_28 : decode i_X3_fits.2.1 28 = .ok (.iaload, 1) := by decide +kernel
theorem d_X3_fits_29 : decode i_X3_fits.2.1 29 = .ok (.invokevirtual 39, 3) := by decide +kernel
theorem d_X3_fits_32 : decode i_X3_fits.2.1 32 = .ok (.astore 5, 2) := by decide +kernel
theorem d_X3_fits_34 : decode i_X3_fits.2.1 34 = .ok (.aload 4, 2) := by decide +kernel
theorem d_X3_fits_36 : decode i_X3_fits.2.1 36 = .ok (.ifnull 42, 3) := by decide +kernel
theorem d_X3_fits_39 : decode i_X3_fits.2.1 39 = .ok (.aload 5, 2) := by decide +kernel
theorem d_X3_fits_41 : decode i_X3_fits.2.1 41 = .ok (.ifnull 37, 3) := by decide +kernel
theorem d_X3_fits_44 : decode i_X3_fits.2.1 44 = .ok (.iload_n 1, 1) := by decide +kernel
theorem d_X3_fits_45 : decode i_X3_fits.2.1 45 = .ok (.aload 4, 2) := by decide +kernel
theorem d_X3_fits_47 : decode i_X3_fits.2.1 47 = .ok (.aload_n 0, 1) := by decide +kernel
theorem d_X3_fits_48 : decode i_X3_fits.2.1 48 = .ok (.getfield 24, 3) := by decide +kernel
theorem d_X3_fits_51 : decode i_X3_fits.2.1 51 = .ok (.iload_n 1, 1) := by decide +kernel
theorem d_X3_fits_52 : decode i_X3_fits.2.1 52 = .ok (.aaload, 1) := by decide +kernel
theorem d_X3_fits_53 : decode i_X3_fits.2.1 53 = .ok (.invokestatic 45, 3) := by decide +kernel
theorem d_X3_fits_56 : decode i_X3_fits.2.1 56 = .ok (.aload_n 0, 1) := by decide +kernel
theorem d_X3_fits_57 : decode i_X3_fits.2.1 57 = .ok (.getfield 24, 3) := by decide +kernel
theorem d_X3_fits_60 : decode i_X3_fits.2.1 60 = .ok (.iload_n 1, 1) := by decide +kernel
theorem d_X3_fits_61 : decode i_X3_fits.2.1 61 = .ok (.aaload, 1) := by decide +kernel
theorem d_X3_fits_62 : decode i_X3_fits.2.1 62 = .ok (.aload 5, 2) := by decide +kernel
theorem d_X3_fits_64 : decode i_X3_fits.2.1 64 = .ok (.invokevirtual 51, 3) := by decide +kernel
theorem d_X3_fits_67 : decode i_X3_fits.2.1 67 = .ok (.aload_n 0, 1) := by decide +kernel
theorem d_X3_fits_68 : decode i_X3_fits.2.1 68 = .ok (.getfield 18, 3) := by decide +kernel
theorem d_X3_fits_71 : decode i_X3_fits.2.1 71 = .ok (.iload_n 3, 1) := by decide +kernel
theorem d_X3_fits_72 : decode i_X3_fits.2.1 72 = .ok (.baload, 1) := by decide +kernel
theorem d_X3_fits_73 : decode i_X3_fits.2.1 73 = .ok (.if_icmp .eq 5, 3) := by decide +kernel
theorem d_X3_fits_76 : decode i_X3_fits.2.1 76 = .ok (.iconst 0, 1) := by decide +kernel
theorem d_X3_fits_77 : decode i_X3_fits.2.1 77 = .ok (.ireturn, 1) := by decide +kernel
theorem d_X3_fits_78 : decode i_X3_fits.2.1 78 = .ok (.iinc 3 1, 3) := by decide +kernel
theorem d_X3_fits_81 : decode i_X3_fits.2.1 81 = .ok (.goto (-79), 3) := by decide +kernel
theorem d_X3_fits_84 : decode i_X3_fits.2.1 84 = .ok (.iconst 1, 1) := by decide +kernel
theorem d_X3_fits_85 : decode i_X3_fits.2.1 85 = .ok (.ireturn, 1) := by decide +kernel
def BLp_X3_fits_2 (x0 : Nat) (x1 : Int) (x2 : Nat) (P2 : Int → Hp → Prop) (x3 : Int) (h : Hp) (Q : Int → Hp → Prop) : Prop :=
  hK h x0 = 3 ∧ ((hI h x0 4 ≤ x3 → (Q 1 h)) ∧ (¬ hI h x0 4 ≤ x3 → (hK h x0 = 3 ∧ ((hK h (hR h x0 0) = 12 ∧ (0 : Int) ≤ x3 ∧ x3 < hL h (hR h x0 0)) ∧ (hK h x2 = 9 ∧ C_X10_get x2 (hI h (hR h x0 0) x3) h (fun r2 h1 => (hK h1 x0 = 3 ∧ ((hK h1 (hR h1 x0 1) = 12 ∧ (0 : Int) ≤ x3 ∧ x3 < hL h1 (hR h1 x0 1)) ∧ (hK h1 x2 = 9 ∧ C_X10_get x2 (hI h1 (hR h1 x0 1) x3) h1 (fun r4 h3 => ((r2 = 0 → (((-2147483648 : Int) ≤ x3 + 1 ∧ x3 + 1 ≤ (2147483647 : Int)) ∧ (P2 (x3 + 1) h3))) ∧ (¬ r2 = 0 → ((r4 = 0 → (((-2147483648 : Int) ≤ x3 + 1 ∧ x3 + 1 ≤ (2147483647 : Int)) ∧ (P2 (x3 + 1) h3))) ∧ (¬ r4 = 0 → (hK h3 x0 = 3 ∧ ((hK h3 (hR h3 x0 3) = 16 ∧ (0 : Int) ≤ x1 ∧ x1 < hL h3 (hR h3 x0 3)) ∧ (C_X7_say x1 r2 (hR h3 (hR h3 x0 3) x1) h3 (fun h5 => (hK h5 x0 = 3 ∧ ((hK h5 (hR h5 x0 3) = 16 ∧ (0 : Int) ≤ x1 ∧ x1 < hL h5 (hR h5 x0 3)) ∧ (hK h5 (hR h5 (hR h5 x0 3) x1) = 2 ∧ C_X2_same (hR h5 (hR h5 x0 3) x1) r4 h5 (fun r7 h6 => (hK h6 x0 = 3 ∧ ((hK h6 (hR h6 x0 2) = 15 ∧ (0 : Int) ≤ x3 ∧ x3 < hL h6 (hR h6 x0 2)) ∧ ((r7 = hI h6 (hR h6 x0 2) x3 → (((-2147483648 : Int) ≤ x3 + 1 ∧ x3 + 1 ≤ (2147483647 : Int)) ∧ (P2 (x3 + 1) h6))) ∧ (¬ r7 = hI h6 (hR h6 x0 2) x3 → (Q 0 h6)))))))))))))))))))))))))))
def Lp_X3_fits_2 (x0 : Nat) (x1 : Int) (x2 : Nat) (x3 : Int) (h : Hp) (Q : Int → Hp → Prop) : Prop := ∀ P2 : Int → Hp → Prop, (∀ (x3 : Int) (h : Hp), BLp_X3_fits_2 x0 x1 x2 P2 x3 h Q → P2 x3 h) → P2 x3 h
theorem Lp_X3_fits_2_ind {x0 : Nat} {x1 : Int} {x2 : Nat} {Q : Int → Hp → Prop} (I : Int → Hp → Prop) (μ : Int → Hp → Nat) (hs : ∀ (P2 : Int → Hp → Prop) (x3 : Int) (h : Hp), I x3 h → (∀ (x3' : Int) (h' : Hp), I x3' h' → μ x3' h' < μ x3 h → P2 x3' h') → BLp_X3_fits_2 x0 x1 x2 P2 x3 h Q) : ∀ (x3 : Int) (h : Hp), I x3 h → Lp_X3_fits_2 x0 x1 x2 x3 h Q := by
  intro x3 h hI P2 hP
  have key : ∀ (n : Nat) (x3 : Int) (h : Hp), I x3 h → μ x3 h < n → P2 x3 h := by
    intro n
    induction n with
    | zero => intro x3 h _ hl; exact absurd hl (Nat.not_lt_zero _)
    | succ n ih => intro x3 h hi hl; exact hP x3 h (hs P2 x3 h hi (fun x3 h' hi' hl' => ih x3 h' hi' (by omega)))
  exact key _ x3 h hI (Nat.lt_succ_self _)
theorem GLp_X3_fits_2 (x0 : Nat) (x1 : Int) (x2 : Nat) (x3 : Int) (h : Hp) (Q : Int → Hp → Prop) (hV : Lp_X3_fits_2 x0 x1 x2 x3 h Q) : Go i_X3_fits 2 [(0, .inr (.inr x0)), (1, .inl x1), (2, .inr (.inr x2)), (3, .inl x3)] [] h (qI Q) := by
  refine hV (fun x3 h => Go i_X3_fits 2 [(0, .inr (.inr x0)), (1, .inl x1), (2, .inr (.inr x2)), (3, .inl x3)] [] h (qI Q)) (fun x3 h hV => ?_)
  unfold BLp_X3_fits_2 at hV
  have hP2 : ∀ (x3 : Int) (h : Hp), Go i_X3_fits 2 [(0, .inr (.inr x0)), (1, .inl x1), (2, .inr (.inr x2)), (3, .inl x3)] [] h (qI Q) → Go i_X3_fits 2 [(0, .inr (.inr x0)), (1, .inl x1), (2, .inr (.inr x2)), (3, .inl x3)] [] h (qI Q) := fun _ h z => z
  refine s_iload_n d_X3_fits_2 rfl (ma 3 rfl) ?_
  refine s_aload_n d_X3_fits_3 rfl (ma 0 rfl) ?_
  obtain ⟨o, hV⟩ := hV
  refine f_RX3_31g rfl d_X3_fits_4 o ?_
  refine s_icmp_ge (tgt := 84) d_X3_fits_7 (by decide) (fun c => ?_) (fun c => ?_)
  · have hV := hV.1 c
    refine s_iconst d_X3_fits_84 (okn rfl) ?_
    exact s_iret d_X3_fits_85 rfl (nar_z (Or.inr rfl)) ⟨_, rfl, hV⟩
  · have hV := hV.2 c
    refine s_aload_n d_X3_fits_10 rfl (ma 2 rfl) ?_
    refine s_aload_n d_X3_fits_11 rfl (ma 0 rfl) ?_
    obtain ⟨o, hV⟩ := hV
    refine f_RX3_9g rfl d_X3_fits_12 o ?_
    refine s_iload_n d_X3_fits_15 rfl (ma 3 rfl) ?_
    obtain ⟨o, hV⟩ := hV
    refine s_iald d_X3_fits_16 o.1 o.2.1 o.2.2 ?_
    obtain ⟨o, hV⟩ := hV
    refine v_RX3_39 rfl (Nat.le_of_ble_eq_true rfl) d_X3_fits_17 o (Nat.le_of_ble_eq_true rfl) hV (fun r2 h1 hV => ?_)
    refine s_astore (lv' := [(4, .inr (.inr r2)), (0, .inr (.inr x0)), (1, .inl x1), (2, .inr (.inr x2)), (3, .inl x3)]) d_X3_fits_20 (Nat.le_of_ble_eq_true rfl) rfl ?_
    refine s_aload_n d_X3_fits_22 rfl (ma 3 rfl) ?_
    refine s_aload_n d_X3_fits_23 rfl (ma 1 rfl) ?_
    obtain ⟨o, hV⟩ := hV
    refine f_RX3_15g rfl d_X3_fits_24 o ?_
    refine s_iload_n d_X3_fits_27 rfl (ma 4 rfl) ?_
    obtain ⟨o, hV⟩ := hV
    refine s_iald d_X3_fits_28 o.1 o.2.1 o.2.2 ?_
    obtain ⟨o, hV⟩ := hV
    refine v_RX3_39 rfl (Nat.le_of_ble_eq_true rfl) d_X3_fits_29 o (Nat.le_of_ble_eq_true rfl) hV (fun r4 h3 hV => ?_)
    refine s_astore (lv' := [(5, .inr (.inr r4)), (4, .inr (.inr r2)), (0, .inr (.inr x0)), (1, .inl x1), (2, .inr (.inr x2)), (3, .inl x3)]) d_X3_fits_32 (Nat.le_of_ble_eq_true rfl) rfl ?_
    refine s_aload d_X3_fits_34 (ma 1 rfl) ?_
    refine s_ifnull (tgt := 78) d_X3_fits_36 (by decide) (fun c => ?_) (fun c => ?_)
    · have hV := hV.1 c
      obtain ⟨o, hV⟩ := hV
      refine s_iinc (lv' := [(3, .inl (x3 + 1)), (5, .inr (.inr r4)), (4, .inr (.inr r2)), (0, .inr (.inr x0)), (1, .inl x1), (2, .inr (.inr x2))]) d_X3_fits_78 (ma 5 rfl) o (Nat.le_of_ble_eq_true rfl) rfl ?_
      refine s_goto (tgt := 2) d_X3_fits_81 (by decide) ?_
      refine s_pick (lv' := [(0, .inr (.inr x0)), (1, .inl x1), (2, .inr (.inr x2)), (3, .inl (x3 + 1))]) [3, 4, 5, 0] rfl ?_
      exact hP2 _ _ hV
    · have hV := hV.2 c
      refine s_aload d_X3_fits_39 (ma 0 rfl) ?_
      refine s_ifnull (tgt := 78) d_X3_fits_41 (by decide) (fun c => ?_) (fun c => ?_)
      · have hV := hV.1 c
        obtain ⟨o, hV⟩ := hV
        refine s_iinc (lv' := [(3, .inl (x3 + 1)), (5, .inr (.inr r4)), (4, .inr (.inr r2)), (0, .inr (.inr x0)), (1, .inl x1), (2, .inr (.inr x2))]) d_X3_fits_78 (ma 5 rfl) o (Nat.le_of_ble_eq_true rfl) rfl ?_
        refine s_goto (tgt := 2) d_X3_fits_81 (by decide) ?_
        refine s_pick (lv' := [(0, .inr (.inr x0)), (1, .inl x1), (2, .inr (.inr x2)), (3, .inl (x3 + 1))]) [3, 4, 5, 0] rfl ?_
        exact hP2 _ _ hV
      · have hV := hV.2 c
        refine s_iload_n d_X3_fits_44 rfl (ma 3 rfl) ?_
        refine s_aload d_X3_fits_45 (ma 1 rfl) ?_
        refine s_aload_n d_X3_fits_47 rfl (ma 2 rfl) ?_
        obtain ⟨o, hV⟩ := hV
        refine f_RX3_24g rfl d_X3_fits_48 o ?_
        refine s_iload_n d_X3_fits_51 rfl (ma 3 rfl) ?_
        obtain ⟨o, hV⟩ := hV
        refine s_aald d_X3_fits_52 (Or.inl o.1) o.2.1 o.2.2 ?_
        refine v_RX3_45 rfl (Nat.le_of_ble_eq_true rfl) d_X3_fits_53 (Nat.le_of_ble_eq_true rfl) hV (fun h5 hV => ?_)
        refine s_aload_n d_X3_fits_56 rfl (ma 2 rfl) ?_
        obtain ⟨o, hV⟩ := hV
        refine f_RX3_24g rfl d_X3_fits_57 o ?_
        refine s_iload_n d_X3_fits_60 rfl (ma 3 rfl) ?_
        obtain ⟨o, hV⟩ := hV
        refine s_aald d_X3_fits_61 (Or.inl o.1) o.2.1 o.2.2 ?_
        refine s_aload d_X3_fits_62 (ma 0 rfl) ?_
        obtain ⟨o, hV⟩ := hV
        refine v_RX3_51 rfl (Nat.le_of_ble_eq_true rfl) d_X3_fits_64 o (Nat.le_of_ble_eq_true rfl) hV (fun r7 h6 hV => ?_)
        refine s_aload_n d_X3_fits_67 rfl (ma 2 rfl) ?_
        obtain ⟨o, hV⟩ := hV
        refine f_RX3_18g rfl d_X3_fits_68 o ?_
        refine s_iload_n d_X3_fits_71 rfl (ma 5 rfl) ?_
        obtain ⟨o, hV⟩ := hV
        refine s_zald d_X3_fits_72 o.1 o.2.1 o.2.2 ?_
        refine s_icmp_eq (tgt := 78) d_X3_fits_73 (by decide) (fun c => ?_) (fun c => ?_)
        · have hV := hV.1 c
          obtain ⟨o, hV⟩ := hV
          refine s_iinc (lv' := [(3, .inl (x3 + 1)), (5, .inr (.inr r4)), (4, .inr (.inr r2)), (0, .inr (.inr x0)), (1, .inl x1), (2, .inr (.inr x2))]) d_X3_fits_78 (ma 5 rfl) o (Nat.le_of_ble_eq_true rfl) rfl ?_
          refine s_goto (tgt := 2) d_X3_fits_81 (by decide) ?_
          refine s_pick (lv' := [(0, .inr (.inr x0)), (1, .inl x1), (2, .inr (.inr x2)), (3, .inl (x3 + 1))]) [3, 4, 5, 0] rfl ?_
          exact hP2 _ _ hV
        · have hV := hV.2 c
          refine s_iconst d_X3_fits_76 (okn rfl) ?_
          exact s_iret d_X3_fits_77 rfl (nar_z (Or.inl rfl)) ⟨_, rfl, hV⟩
def V_X3_fits (x0 : Nat) (x1 : Int) (x2 : Nat) (h : Hp) (Q : Int → Hp → Prop) : Prop :=
  Lp_X3_fits_2 x0 x1 x2 0 h Q
theorem G_X3_fits {x0 : Nat} {x1 : Int} {x2 : Nat} (h : Hp) (Q : Int → Hp → Prop) (hV : V_X3_fits x0 x1 x2 h Q) : C_X3_fits x0 x1 x2 h Q := by
  unfold V_X3_fits at hV
  show Go i_X3_fits 0 [(0, .inr (.inr x0)), (1, .inl x1), (2, .inr (.inr x2))] [] h (qI Q)
  refine s_iconst d_X3_fits_0 (okn rfl) ?_
  refine s_istore_n (lv' := [(3, .inl 0), (0, .inr (.inr x0)), (1, .inl x1), (2, .inr (.inr x2))]) d_X3_fits_1 rfl (Nat.le_of_ble_eq_true rfl) rfl ?_
  refine s_pick (lv' := [(0, .inr (.inr x0)), (1, .inl x1), (2, .inr (.inr x2)), (3, .inl 0)]) [1, 2, 3, 0] rfl ?_
  exact GLp_X3_fits_2 _ _ _ _ _ _ hV

theorem d_X3_bestToAsk_0 : decode i_X3_bestToAsk.2.1 0 = .ok (.iconst (-1), 1) := by decide +kernel
theorem d_X3_bestToAsk_1 : decode i_X3_bestToAsk.2.1 1 = .ok (.istore_n 3, 1) := by decide +kernel
theorem d_X3_bestToAsk_2 : decode i_X3_bestToAsk.2.1 2 = .ok (.iload_n 2, 1) := by decide +kernel
theorem d_X3_bestToAsk_3 : decode i_X3_bestToAsk.2.1 3 = .ok (.invokestatic 55, 3) := by decide +kernel
theorem d_X3_bestToAsk_6 : decode i_X3_bestToAsk.2.1 6 = .ok (.istore 4, 2) := by decide +kernel
theorem d_X3_bestToAsk_8 : decode i_X3_bestToAsk.2.1 8 = .ok (.iconst 0, 1) := by decide +kernel
theorem d_X3_bestToAsk_9 : decode i_X3_bestToAsk.2.1 9 = .ok (.istore 5, 2) := by decide +kernel
theorem d_X3_bestToAsk_11 : decode i_X3_bestToAsk.2.1 11 = .ok (.iload 5, 2) := by decide +kernel
theorem d_X3_bestToAsk_13 : decode i_X3_bestToAsk.2.1 13 = .ok (.aload_n 1, 1) := by decide +kernel
theorem d_X3_bestToAsk_14 : decode i_X3_bestToAsk.2.1 14 = .ok (.getfield 61, 3) := by decide +kernel
theorem d_X3_bestToAsk_17 : decode i_X3_bestToAsk.2.1 17 = .ok (.if_icmp .ge 37, 3) := by decide +kernel
theorem d_X3_bestToAsk_20 : decode i_X3_bestToAsk.2.1 20 = .ok (.aload_n 0, 1) := by decide +kernel
theorem d_X3_bestToAsk_21 : decode i_X3_bestToAsk.2.1 21 = .ok (.aload_n 1, 1) := by decide +kernel
theorem d_X3_bestToAsk_22 : decode i_X3_bestToAsk.2.1 22 = .ok (.getfield 62, 3) := by decide +kernel
theorem d_X3_bestToAsk_25 : decode i_X3_bestToAsk.2.1 25 = .ok (.iload 5, 2) := by decide +kernel
theorem d_X3_bestToAsk_27 : decode i_X3_bestToAsk.2.1 27 = .ok (.aaload, 1) := by decide +kernel
theorem d_X3_bestToAsk_28 : decode i_X3_bestToAsk.2.1 28 = .ok (.iload_n 2, 1) := by decide +kernel
theorem d_X3_bestToAsk_29 : decode i_X3_bestToAsk.2.1 29 = .ok (.invokevirtual 65, 3) := by decide +kernel
theorem d_X3_bestToAsk_32 : decode i_X3_bestToAsk.2.1 32 = .ok (.istore 6, 2) := by decide +kernel
theorem d_X3_bestToAsk_34 : decode i_X3_bestToAsk.2.1 34 = .ok (.iload 6, 2) := by decide +kernel
theorem d_X3_bestToAsk_36 : decode i_X3_bestToAsk.2.1 36 = .ok (.iload 4, 2) := by decide +kernel
theorem d_X3_bestToAsk_38 : decode i_X3_bestToAsk.2.1 38 = .ok (.if_icmp .ge 10, 3) := by decide +kernel
theorem d_X3_bestToAsk_41 : decode i_X3_bestToAsk.2.1 41 = .ok (.iload 6, 2) := by decide +kernel
theorem d_X3_bestToAsk_43 : decode i_X3_bestToAsk.2.1 43 = .ok (.istore 4, 2) := by decide +kernel
theorem d_X3_bestToAsk_45 : decode i_X3_bestToAsk.2.1 45 = .ok (.iload 5, 2) := by decide +kernel
theorem d_X3_bestToAsk_47 : decode i_X3_bestToAsk.2.1 47 = .ok (.istore_n 3, 1) := by decide +kernel
theorem d_X3_bestToAsk_48 : decode i_X3_bestToAsk.2.1 48 = .ok (.iinc 5 1, 3) := by decide +kernel
theorem d_X3_bestToAsk_51 : decode i_X3_bestToAsk.2.1 51 = .ok (.goto (-40), 3) := by decide +kernel
theorem d_X3_bestToAsk_54 : decode i_X3_bestToAsk.2.1 54 = .ok (.iload_n 3, 1) := by decide +kernel
theorem d_X3_bestToAsk_55 : decode i_X3_bestToAsk.2.1 55 = .ok (.ireturn, 1) := by decide +kernel
def BLp_X3_bestToAsk_11 (x0 : Nat) (x1 : Nat) (x2 : Int) (P11 : Int → Int → Int → Hp → Prop) (x3 : Int) (x4 : Int) (x5 : Int) (h : Hp) (Q : Int → Hp → Prop) : Prop :=
  hK h x1 = 9 ∧ ((hI h x1 3 ≤ x5 → (Q x3 h)) ∧ (¬ hI h x1 3 ≤ x5 → (hK h x1 = 9 ∧ ((hK h (hR h x1 0) = 16 ∧ (0 : Int) ≤ x5 ∧ x5 < hL h (hR h x1 0)) ∧ (hK h x0 = 3 ∧ C_X3_greatestPart x0 (hR h (hR h x1 0) x5) x2 h (fun r2 h1 => ((x4 ≤ r2 → (((-2147483648 : Int) ≤ x5 + 1 ∧ x5 + 1 ≤ (2147483647 : Int)) ∧ (P11 x3 x4 (x5 + 1) h1))) ∧ (¬ x4 ≤ r2 → (((-2147483648 : Int) ≤ x5 + 1 ∧ x5 + 1 ≤ (2147483647 : Int)) ∧ (P11 x5 r2 (x5 + 1) h1))))))))))
def Lp_X3_bestToAsk_11 (x0 : Nat) (x1 : Nat) (x2 : Int) (x3 : Int) (x4 : Int) (x5 : Int) (h : Hp) (Q : Int → Hp → Prop) : Prop := ∀ P11 : Int → Int → Int → Hp → Prop, (∀ (x3 : Int) (x4 : Int) (x5 : Int) (h : Hp), BLp_X3_bestToAsk_11 x0 x1 x2 P11 x3 x4 x5 h Q → P11 x3 x4 x5 h) → P11 x3 x4 x5 h
theorem Lp_X3_bestToAsk_11_ind {x0 : Nat} {x1 : Nat} {x2 : Int} {Q : Int → Hp → Prop} (I : Int → Int → Int → Hp → Prop) (μ : Int → Int → Int → Hp → Nat) (hs : ∀ (P11 : Int → Int → Int → Hp → Prop) (x3 : Int) (x4 : Int) (x5 : Int) (h : Hp), I x3 x4 x5 h → (∀ (x3' : Int) (x4' : Int) (x5' : Int) (h' : Hp), I x3' x4' x5' h' → μ x3' x4' x5' h' < μ x3 x4 x5 h → P11 x3' x4' x5' h') → BLp_X3_bestToAsk_11 x0 x1 x2 P11 x3 x4 x5 h Q) : ∀ (x3 : Int) (x4 : Int) (x5 : Int) (h : Hp), I x3 x4 x5 h → Lp_X3_bestToAsk_11 x0 x1 x2 x3 x4 x5 h Q := by
  intro x3 x4 x5 h hI P11 hP
  have key : ∀ (n : Nat) (x3 : Int) (x4 : Int) (x5 : Int) (h : Hp), I x3 x4 x5 h → μ x3 x4 x5 h < n → P11 x3 x4 x5 h := by
    intro n
    induction n with
    | zero => intro x3 x4 x5 h _ hl; exact absurd hl (Nat.not_lt_zero _)
    | succ n ih => intro x3 x4 x5 h hi hl; exact hP x3 x4 x5 h (hs P11 x3 x4 x5 h hi (fun x3 x4 x5 h' hi' hl' => ih x3 x4 x5 h' hi' (by omega)))
  exact key _ x3 x4 x5 h hI (Nat.lt_succ_self _)
theorem GLp_X3_bestToAsk_11 (x0 : Nat) (x1 : Nat) (x2 : Int) (x3 : Int) (x4 : Int) (x5 : Int) (h : Hp) (Q : Int → Hp → Prop) (hV : Lp_X3_bestToAsk_11 x0 x1 x2 x3 x4 x5 h Q) : Go i_X3_bestToAsk 11 [(0, .inr (.inr x0)), (1, .inr (.inr x1)), (2, .inl x2), (3, .inl x3), (4, .inl x4), (5, .inl x5)] [] h (qI Q) := by
  refine hV (fun x3 x4 x5 h => Go i_X3_bestToAsk 11 [(0, .inr (.inr x0)), (1, .inr (.inr x1)), (2, .inl x2), (3, .inl x3), (4, .inl x4), (5, .inl x5)] [] h (qI Q)) (fun x3 x4 x5 h hV => ?_)
  unfold BLp_X3_bestToAsk_11 at hV
  have hP11 : ∀ (x3 : Int) (x4 : Int) (x5 : Int) (h : Hp), Go i_X3_bestToAsk 11 [(0, .inr (.inr x0)), (1, .inr (.inr x1)), (2, .inl x2), (3, .inl x3), (4, .inl x4), (5, .inl x5)] [] h (qI Q) → Go i_X3_bestToAsk 11 [(0, .inr (.inr x0)), (1, .inr (.inr x1)), (2, .inl x2), (3, .inl x3), (4, .inl x4), (5, .inl x5)] [] h (qI Q) := fun _ _ _ h z => z
  refine s_iload d_X3_bestToAsk_11 (ma 5 rfl) ?_
  refine s_aload_n d_X3_bestToAsk_13 rfl (ma 1 rfl) ?_
  obtain ⟨o, hV⟩ := hV
  refine f_RX3_61g rfl d_X3_bestToAsk_14 o ?_
  refine s_icmp_ge (tgt := 54) d_X3_bestToAsk_17 (by decide) (fun c => ?_) (fun c => ?_)
  · have hV := hV.1 c
    refine s_iload_n d_X3_bestToAsk_54 rfl (ma 3 rfl) ?_
    exact s_iret d_X3_bestToAsk_55 rfl rfl ⟨_, rfl, hV⟩
  · have hV := hV.2 c
    refine s_aload_n d_X3_bestToAsk_20 rfl (ma 0 rfl) ?_
    refine s_aload_n d_X3_bestToAsk_21 rfl (ma 1 rfl) ?_
    obtain ⟨o, hV⟩ := hV
    refine f_RX3_62g rfl d_X3_bestToAsk_22 o ?_
    refine s_iload d_X3_bestToAsk_25 (ma 5 rfl) ?_
    obtain ⟨o, hV⟩ := hV
    refine s_aald d_X3_bestToAsk_27 (Or.inl o.1) o.2.1 o.2.2 ?_
    refine s_iload_n d_X3_bestToAsk_28 rfl (ma 2 rfl) ?_
    obtain ⟨o, hV⟩ := hV
    refine v_RX3_65 rfl (Nat.le_of_ble_eq_true rfl) d_X3_bestToAsk_29 o (Nat.le_of_ble_eq_true rfl) hV (fun r2 h1 hV => ?_)
    refine s_istore (lv' := [(6, .inl r2), (0, .inr (.inr x0)), (1, .inr (.inr x1)), (2, .inl x2), (3, .inl x3), (4, .inl x4), (5, .inl x5)]) d_X3_bestToAsk_32 (Nat.le_of_ble_eq_true rfl) rfl ?_
    refine s_iload d_X3_bestToAsk_34 (ma 0 rfl) ?_
    refine s_iload d_X3_bestToAsk_36 (ma 5 rfl) ?_
    refine s_icmp_ge (tgt := 48) d_X3_bestToAsk_38 (by decide) (fun c => ?_) (fun c => ?_)
    · have hV := hV.1 c
      obtain ⟨o, hV⟩ := hV
      refine s_iinc (lv' := [(5, .inl (x5 + 1)), (6, .inl r2), (0, .inr (.inr x0)), (1, .inr (.inr x1)), (2, .inl x2), (3, .inl x3), (4, .inl x4)]) d_X3_bestToAsk_48 (ma 6 rfl) o (Nat.le_of_ble_eq_true rfl) rfl ?_
      refine s_goto (tgt := 11) d_X3_bestToAsk_51 (by decide) ?_
      refine s_pick (lv' := [(0, .inr (.inr x0)), (1, .inr (.inr x1)), (2, .inl x2), (3, .inl x3), (4, .inl x4), (5, .inl (x5 + 1))]) [2, 3, 4, 5, 6, 0] rfl ?_
      exact hP11 _ _ _ _ hV
    · have hV := hV.2 c
      refine s_iload d_X3_bestToAsk_41 (ma 0 rfl) ?_
      refine s_istore (lv' := [(4, .inl r2), (6, .inl r2), (0, .inr (.inr x0)), (1, .inr (.inr x1)), (2, .inl x2), (3, .inl x3), (5, .inl x5)]) d_X3_bestToAsk_43 (Nat.le_of_ble_eq_true rfl) rfl ?_
      refine s_iload d_X3_bestToAsk_45 (ma 6 rfl) ?_
      refine s_istore_n (lv' := [(3, .inl x5), (4, .inl r2), (6, .inl r2), (0, .inr (.inr x0)), (1, .inr (.inr x1)), (2, .inl x2), (5, .inl x5)]) d_X3_bestToAsk_47 rfl (Nat.le_of_ble_eq_true rfl) rfl ?_
      obtain ⟨o, hV⟩ := hV
      refine s_iinc (lv' := [(5, .inl (x5 + 1)), (3, .inl x5), (4, .inl r2), (6, .inl r2), (0, .inr (.inr x0)), (1, .inr (.inr x1)), (2, .inl x2)]) d_X3_bestToAsk_48 (ma 6 rfl) o (Nat.le_of_ble_eq_true rfl) rfl ?_
      refine s_goto (tgt := 11) d_X3_bestToAsk_51 (by decide) ?_
      refine s_pick (lv' := [(0, .inr (.inr x0)), (1, .inr (.inr x1)), (2, .inl x2), (3, .inl x5), (4, .inl r2), (5, .inl (x5 + 1))]) [4, 5, 6, 1, 2, 0] rfl ?_
      exact hP11 _ _ _ _ hV
def V_X3_bestToAsk (x0 : Nat) (x1 : Nat) (x2 : Int) (h : Hp) (Q : Int → Hp → Prop) : Prop :=
  C_J_bitCount x2 h (fun r2 h1 => (Lp_X3_bestToAsk_11 x0 x1 x2 (-1) r2 0 h1 Q))
theorem G_X3_bestToAsk {x0 : Nat} {x1 : Nat} {x2 : Int} (h : Hp) (Q : Int → Hp → Prop) (hV : V_X3_bestToAsk x0 x1 x2 h Q) : C_X3_bestToAsk x0 x1 x2 h Q := by
  unfold V_X3_bestToAsk at hV
  show Go i_X3_bestToAsk 0 [(0, .inr (.inr x0)), (1, .inr (.inr x1)), (2, .inl x2)] [] h (qI Q)
  refine s_iconst d_X3_bestToAsk_0 (okn rfl) ?_
  refine s_istore_n (lv' := [(3, .inl (-1)), (0, .inr (.inr x0)), (1, .inr (.inr x1)), (2, .inl x2)]) d_X3_bestToAsk_1 rfl (Nat.le_of_ble_eq_true rfl) rfl ?_
  refine s_iload_n d_X3_bestToAsk_2 rfl (ma 3 rfl) ?_
  refine v_RX3_55 rfl (Nat.le_of_ble_eq_true rfl) d_X3_bestToAsk_3 (Nat.le_of_ble_eq_true rfl) hV (fun r2 h1 hV => ?_)
  refine s_istore (lv' := [(4, .inl r2), (3, .inl (-1)), (0, .inr (.inr x0)), (1, .inr (.inr x1)), (2, .inl x2)]) d_X3_bestToAsk_6 (Nat.le_of_ble_eq_true rfl) rfl ?_
  refine s_iconst d_X3_bestToAsk_8 (okn rfl) ?_
  refine s_istore (lv' := [(5, .inl 0), (4, .inl r2), (3, .inl (-1)), (0, .inr (.inr x0)), (1, .inr (.inr x1)), (2, .inl x2)]) d_X3_bestToAsk_9 (Nat.le_of_ble_eq_true rfl) rfl ?_
  refine s_pick (lv' := [(0, .inr (.inr x0)), (1, .inr (.inr x1)), (2, .inl x2), (3, .inl (-1)), (4, .inl r2), (5, .inl 0)]) [3, 4, 5, 2, 1, 0] rfl ?_
  exact GLp_X3_bestToAsk_11 _ _ _ _ _ _ _ _ hV

theorem d_X3_greatestPart_0 : decode i_X3_greatestPart.2.1 0 = .ok (.iconst 0, 1) := by decide +kernel
theorem d_X3_greatestPart_1 : decode i_X3_greatestPart.2.1 1 = .ok (.istore_n 3, 1) := by decide +kernel
theorem d_X3_greatestPart_2 : decode i_X3_greatestPart.2.1 2 = .ok (.iload_n 3, 1) := by decide +kernel
theorem d_X3_greatestPart_3 : decode i_X3_greatestPart.2.1 3 = .ok (.bipush 6, 2) := by decide +kernel
theorem d_X3_greatestPart_5 : decode i_X3_greatestPart.2.1 5 = .ok (.if_icmp .ge 20, 3) := by decide +kernel
theorem d_X3_greatestPart_8 : decode i_X3_greatestPart.2.1 8 = .ok (.iload_n 3, 1) := by decide +kernel
theorem d_X3_greatestPart_9 : decode i_X3_greatestPart.2.1 9 = .ok (.aload_n 1, 1) := by decide +kernel
theorem d_X3_greatestPart_10 : decode i_X3_greatestPart.2.1 10 = .ok (.aload_n 0, 1) := by decide +kernel
theorem d_X3_greatestPart_11 : decode i_X3_greatestPart.2.1 11 = .ok (.getfield 24, 3) := by decide +kernel
theorem d_X3_greatestPart_14 : decode i_X3_greatestPart.2.1 14 = .ok (.iload_n 3, 1) := by decide +kernel
theorem d_X3_greatestPart_15 : decode i_X3_greatestPart.2.1 15 = .ok (.aaload, 1) := by decide +kernel
theorem d_X3_greatestPart_16 : decode i_X3_greatestPart.2.1 16 = .ok (.invokestatic 45, 3) := by decide +kernel
theorem d_X3_greatestPart_19 : decode i_X3_greatestPart.2.1 19 = .ok (.iinc 3 1, 3) := by decide +kernel
theorem d_X3_greatestPart_22 : decode i_X3_greatestPart.2.1 22 = .ok (.goto (-20), 3) := by decide +kernel
theorem d_X3_greatestPart_25 : decode i_X3_greatestPart.2.1 25 = .ok (.iconst 0, 1) := by decide +kernel
theorem d_X3_greatestPart_26 : decode i_X3_greatestPart.2.1 26 = .ok (.istore_n 3, 1) := by decide +kernel
theorem d_X3_greatestPart_27 : decode i_X3_greatestPart.2.1 27 = .ok (.iconst 0, 1) := by decide +kernel
theorem d_X3_greatestPart_28 : decode i_X3_greatestPart.2.1 28 = .ok (.istore 4, 2) := by decide +kernel
theorem d_X3_greatestPart_30 : decode i_X3_greatestPart.2.1 30 = .ok (.iload 4, 2) := by decide +kernel
theorem d_X3_greatestPart_32 : decode i_X3_greatestPart.2.1 32 = .ok (.bipush 6, 2) := by decide +kernel
theorem d_X3_greatestPart_34 : decode i_X3_greatestPart.2.1 34 = .ok (.if_icmp .ge 31, 3) := by decide +kernel
theorem d_X3_greatestPart_37 : decode i_X3_greatestPart.2.1 37 = .ok (.iload_n 2, 1) := by decide +kernel
theorem d_X3_greatestPart_38 : decode i_X3_greatestPart.2.1 38 = .ok (.iload 4, 2) := by decide +kernel
theorem d_X3_greatestPart_40 : decode i_X3_greatestPart.2.1 40 = .ok (.ishr, 1) := by decide +kernel
theorem d_X3_greatestPart_41 : decode i_X3_greatestPart.2.1 41 = .ok (.iconst 1, 1) := by decide +kernel
theorem d_X3_greatestPart_42 : decode i_X3_greatestPart.2.1 42 = .ok (.iand, 1) := by decide +kernel
theorem d_X3_greatestPart_43 : decode i_X3_greatestPart.2.1 43 = .ok (.iconst 1, 1) := by decide +kernel
theorem d_X3_greatestPart_44 : decode i_X3_greatestPart.2.1 44 = .ok (.if_icmp .ne 15, 3) := by decide +kernel
theorem d_X3_greatestPart_47 : decode i_X3_greatestPart.2.1 47 = .ok (.iload_n 3, 1) := by decide +kernel
theorem d_X3_greatestPart_48 : decode i_X3_greatestPart.2.1 48 = .ok (.aload_n 0, 1) := by decide +kernel
theorem d_X3_greatestPart_49 : decode i_X3_greatestPart.2.1 49 = .ok (.iload 4, 2) := by decide +kernel
theorem d_X3_greatestPart_51 : decode i_X3_greatestPart.2.1 51 = .ok (.iload_n 2, 1) := by decide +kernel
theorem d_X3_greatestPart_52 : decode i_X3_greatestPart.2.1 52 = .ok (.invokevirtual 69, 3) := by decide +kernel
theorem d_X3_greatestPart_55 : decode i_X3_greatestPart.2.1 55 = .ok (.invokestatic 73, 3) := by decide +kernel
theorem d_X3_greatestPart_58 : decode i_X3_greatestPart.2.1 58 = .ok (.istore_n 3, 1) := by decide +kernel
theorem d_X3_greatestPart_59 : decode i_X3_greatestPart.2.1 59 = .ok (.iinc 4 1, 3) := by decide +kernel
theorem d_X3_greatestPart_62 : decode i_X3_greatestPart.2.1 62 = .ok (.goto (-32), 3) := by decide +kernel
theorem d_X3_greatestPart_65 : decode i_X3_greatestPart.2.1 65 = .ok (.iload_n 3, 1) := by decide +kernel
theorem d_X3_greatestPart_66 : decode i_X3_greatestPart.2.1 66 = .ok (.ireturn, 1) := by decide +kernel
def BLp_X3_greatestPart_30 (x0 : Nat) (x2 : Int) (P30 : Int → Int → Hp → Prop) (x3 : Int) (x4 : Int) (h : Hp) (Q : Int → Hp → Prop) : Prop :=
  (6 ≤ x4 → (Q x3 h)) ∧ (¬ 6 ≤ x4 → ((zAnd (zShr x2 x4) 1 ≠ 1 → (((-2147483648 : Int) ≤ x4 + 1 ∧ x4 + 1 ≤ (2147483647 : Int)) ∧ (P30 x3 (x4 + 1) h))) ∧ (zAnd (zShr x2 x4) 1 = 1 → (hK h x0 = 3 ∧ C_X3_howManyLike x0 x4 x2 h (fun r2 h1 => (∀ x3_3 : Int, x3_3 = max x3 r2 → (((-2147483648 : Int) ≤ x4 + 1 ∧ x4 + 1 ≤ (2147483647 : Int)) ∧ (P30 x3_3 (x4 + 1) h1))))))))
def Lp_X3_greatestPart_30 (x0 : Nat) (x2 : Int) (x3 : Int) (x4 : Int) (h : Hp) (Q : Int → Hp → Prop) : Prop := ∀ P30 : Int → Int → Hp → Prop, (∀ (x3 : Int) (x4 : Int) (h : Hp), BLp_X3_greatestPart_30 x0 x2 P30 x3 x4 h Q → P30 x3 x4 h) → P30 x3 x4 h
theorem Lp_X3_greatestPart_30_ind {x0 : Nat} {x2 : Int} {Q : Int → Hp → Prop} (I : Int → Int → Hp → Prop) (μ : Int → Int → Hp → Nat) (hs : ∀ (P30 : Int → Int → Hp → Prop) (x3 : Int) (x4 : Int) (h : Hp), I x3 x4 h → (∀ (x3' : Int) (x4' : Int) (h' : Hp), I x3' x4' h' → μ x3' x4' h' < μ x3 x4 h → P30 x3' x4' h') → BLp_X3_greatestPart_30 x0 x2 P30 x3 x4 h Q) : ∀ (x3 : Int) (x4 : Int) (h : Hp), I x3 x4 h → Lp_X3_greatestPart_30 x0 x2 x3 x4 h Q := by
  intro x3 x4 h hI P30 hP
  have key : ∀ (n : Nat) (x3 : Int) (x4 : Int) (h : Hp), I x3 x4 h → μ x3 x4 h < n → P30 x3 x4 h := by
    intro n
    induction n with
    | zero => intro x3 x4 h _ hl; exact absurd hl (Nat.not_lt_zero _)
    | succ n ih => intro x3 x4 h hi hl; exact hP x3 x4 h (hs P30 x3 x4 h hi (fun x3 x4 h' hi' hl' => ih x3 x4 h' hi' (by omega)))
  exact key _ x3 x4 h hI (Nat.lt_succ_self _)
theorem GLp_X3_greatestPart_30 (x0 : Nat) (x2 : Int) (x3 : Int) (x4 : Int) (h : Hp) (Q : Int → Hp → Prop) (hV : Lp_X3_greatestPart_30 x0 x2 x3 x4 h Q) : Go i_X3_greatestPart 30 [(0, .inr (.inr x0)), (2, .inl x2), (3, .inl x3), (4, .inl x4)] [] h (qI Q) := by
  refine hV (fun x3 x4 h => Go i_X3_greatestPart 30 [(0, .inr (.inr x0)), (2, .inl x2), (3, .inl x3), (4, .inl x4)] [] h (qI Q)) (fun x3 x4 h hV => ?_)
  unfold BLp_X3_greatestPart_30 at hV
  have hP30 : ∀ (x3 : Int) (x4 : Int) (h : Hp), Go i_X3_greatestPart 30 [(0, .inr (.inr x0)), (2, .inl x2), (3, .inl x3), (4, .inl x4)] [] h (qI Q) → Go i_X3_greatestPart 30 [(0, .inr (.inr x0)), (2, .inl x2), (3, .inl x3), (4, .inl x4)] [] h (qI Q) := fun _ _ h z => z
  refine s_iload d_X3_greatestPart_30 (ma 3 rfl) ?_
  refine s_bipush d_X3_greatestPart_32 (by decide) (okn rfl) ?_
  refine s_icmp_ge (tgt := 65) d_X3_greatestPart_34 (by decide) (fun c => ?_) (fun c => ?_)
  · have hV := hV.1 c
    refine s_iload_n d_X3_greatestPart_65 rfl (ma 2 rfl) ?_
    exact s_iret d_X3_greatestPart_66 rfl rfl ⟨_, rfl, hV⟩
  · have hV := hV.2 c
    refine s_iload_n d_X3_greatestPart_37 rfl (ma 1 rfl) ?_
    refine s_iload d_X3_greatestPart_38 (ma 3 rfl) ?_
    refine s_ishr d_X3_greatestPart_40 ?_
    refine s_iconst d_X3_greatestPart_41 (okn rfl) ?_
    refine s_iand d_X3_greatestPart_42 ?_
    refine s_iconst d_X3_greatestPart_43 (okn rfl) ?_
    refine s_icmp_ne (tgt := 59) d_X3_greatestPart_44 (by decide) (fun c => ?_) (fun c => ?_)
    · have hV := hV.1 c
      obtain ⟨o, hV⟩ := hV
      refine s_iinc (lv' := [(4, .inl (x4 + 1)), (0, .inr (.inr x0)), (2, .inl x2), (3, .inl x3)]) d_X3_greatestPart_59 (ma 3 rfl) o (Nat.le_of_ble_eq_true rfl) rfl ?_
      refine s_goto (tgt := 30) d_X3_greatestPart_62 (by decide) ?_
      refine s_pick (lv' := [(0, .inr (.inr x0)), (2, .inl x2), (3, .inl x3), (4, .inl (x4 + 1))]) [1, 2, 3, 0] rfl ?_
      exact hP30 _ _ _ hV
    · have hV := hV.2 c
      refine s_iload_n d_X3_greatestPart_47 rfl (ma 2 rfl) ?_
      refine s_aload_n d_X3_greatestPart_48 rfl (ma 0 rfl) ?_
      refine s_iload d_X3_greatestPart_49 (ma 3 rfl) ?_
      refine s_iload_n d_X3_greatestPart_51 rfl (ma 1 rfl) ?_
      obtain ⟨o, hV⟩ := hV
      refine v_RX3_69 rfl (Nat.le_of_ble_eq_true rfl) d_X3_greatestPart_52 o (Nat.le_of_ble_eq_true rfl) hV (fun r2 h1 hV => ?_)
      refine s_mmax d_X3_greatestPart_55 mm_RX3_73 (Nat.le_of_ble_eq_true rfl) (Nat.le_of_ble_eq_true rfl) ?_
      refine s_nmI (fun x3_3 ex3_3 => ?_)
      have hV := hV x3_3 ex3_3
      refine s_istore_n (lv' := [(3, .inl x3_3), (0, .inr (.inr x0)), (2, .inl x2), (4, .inl x4)]) d_X3_greatestPart_58 rfl (Nat.le_of_ble_eq_true rfl) rfl ?_
      obtain ⟨o, hV⟩ := hV
      refine s_iinc (lv' := [(4, .inl (x4 + 1)), (3, .inl x3_3), (0, .inr (.inr x0)), (2, .inl x2)]) d_X3_greatestPart_59 (ma 3 rfl) o (Nat.le_of_ble_eq_true rfl) rfl ?_
      refine s_goto (tgt := 30) d_X3_greatestPart_62 (by decide) ?_
      refine s_pick (lv' := [(0, .inr (.inr x0)), (2, .inl x2), (3, .inl x3_3), (4, .inl (x4 + 1))]) [2, 3, 1, 0] rfl ?_
      exact hP30 _ _ _ hV
def BLp_X3_greatestPart_2 (x0 : Nat) (x1 : Nat) (x2 : Int) (P2 : Int → Hp → Prop) (x3 : Int) (h : Hp) (Q : Int → Hp → Prop) : Prop :=
  (6 ≤ x3 → (Lp_X3_greatestPart_30 x0 x2 0 0 h Q)) ∧ (¬ 6 ≤ x3 → (hK h x0 = 3 ∧ ((hK h (hR h x0 3) = 16 ∧ (0 : Int) ≤ x3 ∧ x3 < hL h (hR h x0 3)) ∧ (C_X7_say x3 x1 (hR h (hR h x0 3) x3) h (fun h1 => (((-2147483648 : Int) ≤ x3 + 1 ∧ x3 + 1 ≤ (2147483647 : Int)) ∧ (P2 (x3 + 1) h1)))))))
def Lp_X3_greatestPart_2 (x0 : Nat) (x1 : Nat) (x2 : Int) (x3 : Int) (h : Hp) (Q : Int → Hp → Prop) : Prop := ∀ P2 : Int → Hp → Prop, (∀ (x3 : Int) (h : Hp), BLp_X3_greatestPart_2 x0 x1 x2 P2 x3 h Q → P2 x3 h) → P2 x3 h
theorem Lp_X3_greatestPart_2_ind {x0 : Nat} {x1 : Nat} {x2 : Int} {Q : Int → Hp → Prop} (I : Int → Hp → Prop) (μ : Int → Hp → Nat) (hs : ∀ (P2 : Int → Hp → Prop) (x3 : Int) (h : Hp), I x3 h → (∀ (x3' : Int) (h' : Hp), I x3' h' → μ x3' h' < μ x3 h → P2 x3' h') → BLp_X3_greatestPart_2 x0 x1 x2 P2 x3 h Q) : ∀ (x3 : Int) (h : Hp), I x3 h → Lp_X3_greatestPart_2 x0 x1 x2 x3 h Q := by
  intro x3 h hI P2 hP
  have key : ∀ (n : Nat) (x3 : Int) (h : Hp), I x3 h → μ x3 h < n → P2 x3 h := by
    intro n
    induction n with
    | zero => intro x3 h _ hl; exact absurd hl (Nat.not_lt_zero _)
    | succ n ih => intro x3 h hi hl; exact hP x3 h (hs P2 x3 h hi (fun x3 h' hi' hl' => ih x3 h' hi' (by omega)))
  exact key _ x3 h hI (Nat.lt_succ_self _)
theorem GLp_X3_greatestPart_2 (x0 : Nat) (x1 : Nat) (x2 : Int) (x3 : Int) (h : Hp) (Q : Int → Hp → Prop) (hV : Lp_X3_greatestPart_2 x0 x1 x2 x3 h Q) : Go i_X3_greatestPart 2 [(0, .inr (.inr x0)), (1, .inr (.inr x1)), (2, .inl x2), (3, .inl x3)] [] h (qI Q) := by
  refine hV (fun x3 h => Go i_X3_greatestPart 2 [(0, .inr (.inr x0)), (1, .inr (.inr x1)), (2, .inl x2), (3, .inl x3)] [] h (qI Q)) (fun x3 h hV => ?_)
  unfold BLp_X3_greatestPart_2 at hV
  have hP2 : ∀ (x3 : Int) (h : Hp), Go i_X3_greatestPart 2 [(0, .inr (.inr x0)), (1, .inr (.inr x1)), (2, .inl x2), (3, .inl x3)] [] h (qI Q) → Go i_X3_greatestPart 2 [(0, .inr (.inr x0)), (1, .inr (.inr x1)), (2, .inl x2), (3, .inl x3)] [] h (qI Q) := fun _ h z => z
  refine s_iload_n d_X3_greatestPart_2 rfl (ma 3 rfl) ?_
  refine s_bipush d_X3_greatestPart_3 (by decide) (okn rfl) ?_
  refine s_icmp_ge (tgt := 25) d_X3_greatestPart_5 (by decide) (fun c => ?_) (fun c => ?_)
  · have hV := hV.1 c
    refine s_iconst d_X3_greatestPart_25 (okn rfl) ?_
    refine s_istore_n (lv' := [(3, .inl 0), (0, .inr (.inr x0)), (1, .inr (.inr x1)), (2, .inl x2)]) d_X3_greatestPart_26 rfl (Nat.le_of_ble_eq_true rfl) rfl ?_
    refine s_iconst d_X3_greatestPart_27 (okn rfl) ?_
    refine s_istore (lv' := [(4, .inl 0), (3, .inl 0), (0, .inr (.inr x0)), (1, .inr (.inr x1)), (2, .inl x2)]) d_X3_greatestPart_28 (Nat.le_of_ble_eq_true rfl) rfl ?_
    refine s_pick (lv' := [(0, .inr (.inr x0)), (2, .inl x2), (3, .inl 0), (4, .inl 0)]) [2, 4, 1, 0] rfl ?_
    exact GLp_X3_greatestPart_30 _ _ _ _ _ _ hV
  · have hV := hV.2 c
    refine s_iload_n d_X3_greatestPart_8 rfl (ma 3 rfl) ?_
    refine s_aload_n d_X3_greatestPart_9 rfl (ma 1 rfl) ?_
    refine s_aload_n d_X3_greatestPart_10 rfl (ma 0 rfl) ?_
    obtain ⟨o, hV⟩ := hV
    refine f_RX3_24g rfl d_X3_greatestPart_11 o ?_
    refine s_iload_n d_X3_greatestPart_14 rfl (ma 3 rfl) ?_
    obtain ⟨o, hV⟩ := hV
    refine s_aald d_X3_greatestPart_15 (Or.inl o.1) o.2.1 o.2.2 ?_
    refine v_RX3_45 rfl (Nat.le_of_ble_eq_true rfl) d_X3_greatestPart_16 (Nat.le_of_ble_eq_true rfl) hV (fun h1 hV => ?_)
    obtain ⟨o, hV⟩ := hV
    refine s_iinc (lv' := [(3, .inl (x3 + 1)), (0, .inr (.inr x0)), (1, .inr (.inr x1)), (2, .inl x2)]) d_X3_greatestPart_19 (ma 3 rfl) o (Nat.le_of_ble_eq_true rfl) rfl ?_
    refine s_goto (tgt := 2) d_X3_greatestPart_22 (by decide) ?_
    refine s_pick (lv' := [(0, .inr (.inr x0)), (1, .inr (.inr x1)), (2, .inl x2), (3, .inl (x3 + 1))]) [1, 2, 3, 0] rfl ?_
    exact hP2 _ _ hV
def V_X3_greatestPart (x0 : Nat) (x1 : Nat) (x2 : Int) (h : Hp) (Q : Int → Hp → Prop) : Prop :=
  Lp_X3_greatestPart_2 x0 x1 x2 0 h Q
theorem G_X3_greatestPart {x0 : Nat} {x1 : Nat} {x2 : Int} (h : Hp) (Q : Int → Hp → Prop) (hV : V_X3_greatestPart x0 x1 x2 h Q) : C_X3_greatestPart x0 x1 x2 h Q := by
  unfold V_X3_greatestPart at hV
  show Go i_X3_greatestPart 0 [(0, .inr (.inr x0)), (1, .inr (.inr x1)), (2, .inl x2)] [] h (qI Q)
  refine s_iconst d_X3_greatestPart_0 (okn rfl) ?_
  refine s_istore_n (lv' := [(3, .inl 0), (0, .inr (.inr x0)), (1, .inr (.inr x1)), (2, .inl x2)]) d_X3_greatestPart_1 rfl (Nat.le_of_ble_eq_true rfl) rfl ?_
  refine s_pick (lv' := [(0, .inr (.inr x0)), (1, .inr (.inr x1)), (2, .inl x2), (3, .inl 0)]) [1, 2, 3, 0] rfl ?_
  exact GLp_X3_greatestPart_2 _ _ _ _ _ _ hV

theorem d_X3_howManyLike_0 : decode i_X3_howManyLike.2.1 0 = .ok (.iconst 0, 1) := by decide +kernel
theorem d_X3_howManyLike_1 : decode i_X3_howManyLike.2.1 1 = .ok (.istore_n 3, 1) := by decide +kernel
theorem d_X3_howManyLike_2 : decode i_X3_howManyLike.2.1 2 = .ok (.iconst 0, 1) := by decide +kernel
theorem d_X3_howManyLike_3 : decode i_X3_howManyLike.2.1 3 = .ok (.istore 4, 2) := by decide +kernel
theorem d_X3_howManyLike_5 : decode i_X3_howManyLike.2.1 5 = .ok (.iload 4, 2) := by decide +kernel
theorem d_X3_howManyLike_7 : decode i_X3_howManyLike.2.1 7 = .ok (.bipush 6, 2) := by decide +kernel
theorem d_X3_howManyLike_9 : decode i_X3_howManyLike.2.1 9 = .ok (.if_icmp .ge 41, 3) := by decide +kernel
theorem d_X3_howManyLike_12 : decode i_X3_howManyLike.2.1 12 = .ok (.iload_n 2, 1) := by decide +kernel
theorem d_X3_howManyLike_13 : decode i_X3_howManyLike.2.1 13 = .ok (.iload 4, 2) := by decide +kernel
theorem d_X3_howManyLike_15 : decode i_X3_howManyLike.2.1 15 = .ok (.ishr, 1) := by decide +kernel
theorem d_X3_howManyLike_16 : decode i_X3_howManyLike.2.1 16 = .ok (.iconst 1, 1) := by decide +kernel
theorem d_X3_howManyLike_17 : decode i_X3_howManyLike.2.1 17 = .ok (.iand, 1) := by decide +kernel
theorem d_X3_howManyLike_18 : decode i_X3_howManyLike.2.1 18 = .ok (.iconst 1, 1) := by decide +kernel
theorem d_X3_howManyLike_19 : decode i_X3_howManyLike.2.1 19 = .ok (.if_icmp .ne 25, 3) := by decide +kernel
theorem d_X3_howManyLike_22 : decode i_X3_howManyLike.2.1 22 = .ok (.aload_n 0, 1) := by decide +kernel
theorem d_X3_howManyLike_23 : decode i_X3_howManyLike.2.1 23 = .ok (.getfield 24, 3) := by decide +kernel
theorem d_X3_howManyLike_26 : decode i_X3_howManyLike.2.1 26 = .ok (.iload_n 1, 1) := by decide +kernel
theorem d_X3_howManyLike_27 : decode i_X3_howManyLike.2.1 27 = .ok (.aaload, 1) := by decide +kernel
theorem d_X3_howManyLike_28 : decode i_X3_howManyLike.2.1 28 = .ok (.aload_n 0, 1) := by decide +kernel
theorem d_X3_howManyLike_29 : decode i_X3_howManyLike.2.1 29 = .ok (.getfield 24, 3) := by decide +kernel
theorem d_X3_howManyLike_32 : decode i_X3_howManyLike.2.1 32 = .ok (.iload 4, 2) := by decide +kernel
theorem d_X3_howManyLike_34 : decode i_X3_howManyLike.2.1 34 = .ok (.aaload, 1) := by decide +kernel
theorem d_X3_howManyLike_35 : decode i_X3_howManyLike.2.1 35 = .ok (.invokevirtual 51, 3) := by decide +kernel
theorem d_X3_howManyLike_38 : decode i_X3_howManyLike.2.1 38 = .ok (.ifCond .eq 6, 3) := by decide +kernel
theorem d_X3_howManyLike_41 : decode i_X3_howManyLike.2.1 41 = .ok (.iinc 3 1, 3) := by decide +kernel
theorem d_X3_howManyLike_44 : decode i_X3_howManyLike.2.1 44 = .ok (.iinc 4 1, 3) := by decide +kernel
theorem d_X3_howManyLike_47 : decode i_X3_howManyLike.2.1 47 = .ok (.goto (-42), 3) := by decide +kernel
theorem d_X3_howManyLike_50 : decode i_X3_howManyLike.2.1 50 = .ok (.iload_n 3, 1) := by decide +kernel
theorem d_X3_howManyLike_51 : decode i_X3_howManyLike.2.1 51 = .ok (.ireturn, 1) := by decide +kernel
def BLp_X3_howManyLike_5 (x0 : Nat) (x1 : Int) (x2 : Int) (P5 : Int → Int → Hp → Prop) (x3 : Int) (x4 : Int) (h : Hp) (Q : Int → Hp → Prop) : Prop :=
  (6 ≤ x4 → (Q x3 h)) ∧ (¬ 6 ≤ x4 → ((zAnd (zShr x2 x4) 1 ≠ 1 → (((-2147483648 : Int) ≤ x4 + 1 ∧ x4 + 1 ≤ (2147483647 : Int)) ∧ (P5 x3 (x4 + 1) h))) ∧ (zAnd (zShr x2 x4) 1 = 1 → (hK h x0 = 3 ∧ ((hK h (hR h x0 3) = 16 ∧ (0 : Int) ≤ x1 ∧ x1 < hL h (hR h x0 3)) ∧ (hK h x0 = 3 ∧ ((hK h (hR h x0 3) = 16 ∧ (0 : Int) ≤ x4 ∧ x4 < hL h (hR h x0 3)) ∧ (hK h (hR h (hR h x0 3) x1) = 2 ∧ C_X2_same (hR h (hR h x0 3) x1) (hR h (hR h x0 3) x4) h (fun r2 h1 => ((r2 = 0 → (((-2147483648 : Int) ≤ x4 + 1 ∧ x4 + 1 ≤ (2147483647 : Int)) ∧ (P5 x3 (x4 + 1) h1))) ∧ (¬ r2 = 0 → (((-2147483648 : Int) ≤ x3 + 1 ∧ x3 + 1 ≤ (2147483647 : Int)) ∧ (((-2147483648 : Int) ≤ x4 + 1 ∧ x4 + 1 ≤ (2147483647 : Int)) ∧ (P5 (x3 + 1) (x4 + 1) h1))))))))))))))
def Lp_X3_howManyLike_5 (x0 : Nat) (x1 : Int) (x2 : Int) (x3 : Int) (x4 : Int) (h : Hp) (Q : Int → Hp → Prop) : Prop := ∀ P5 : Int → Int → Hp → Prop, (∀ (x3 : Int) (x4 : Int) (h : Hp), BLp_X3_howManyLike_5 x0 x1 x2 P5 x3 x4 h Q → P5 x3 x4 h) → P5 x3 x4 h
theorem Lp_X3_howManyLike_5_ind {x0 : Nat} {x1 : Int} {x2 : Int} {Q : Int → Hp → Prop} (I : Int → Int → Hp → Prop) (μ : Int → Int → Hp → Nat) (hs : ∀ (P5 : Int → Int → Hp → Prop) (x3 : Int) (x4 : Int) (h : Hp), I x3 x4 h → (∀ (x3' : Int) (x4' : Int) (h' : Hp), I x3' x4' h' → μ x3' x4' h' < μ x3 x4 h → P5 x3' x4' h') → BLp_X3_howManyLike_5 x0 x1 x2 P5 x3 x4 h Q) : ∀ (x3 : Int) (x4 : Int) (h : Hp), I x3 x4 h → Lp_X3_howManyLike_5 x0 x1 x2 x3 x4 h Q := by
  intro x3 x4 h hI P5 hP
  have key : ∀ (n : Nat) (x3 : Int) (x4 : Int) (h : Hp), I x3 x4 h → μ x3 x4 h < n → P5 x3 x4 h := by
    intro n
    induction n with
    | zero => intro x3 x4 h _ hl; exact absurd hl (Nat.not_lt_zero _)
    | succ n ih => intro x3 x4 h hi hl; exact hP x3 x4 h (hs P5 x3 x4 h hi (fun x3 x4 h' hi' hl' => ih x3 x4 h' hi' (by omega)))
  exact key _ x3 x4 h hI (Nat.lt_succ_self _)
theorem GLp_X3_howManyLike_5 (x0 : Nat) (x1 : Int) (x2 : Int) (x3 : Int) (x4 : Int) (h : Hp) (Q : Int → Hp → Prop) (hV : Lp_X3_howManyLike_5 x0 x1 x2 x3 x4 h Q) : Go i_X3_howManyLike 5 [(0, .inr (.inr x0)), (1, .inl x1), (2, .inl x2), (3, .inl x3), (4, .inl x4)] [] h (qI Q) := by
  refine hV (fun x3 x4 h => Go i_X3_howManyLike 5 [(0, .inr (.inr x0)), (1, .inl x1), (2, .inl x2), (3, .inl x3), (4, .inl x4)] [] h (qI Q)) (fun x3 x4 h hV => ?_)
  unfold BLp_X3_howManyLike_5 at hV
  have hP5 : ∀ (x3 : Int) (x4 : Int) (h : Hp), Go i_X3_howManyLike 5 [(0, .inr (.inr x0)), (1, .inl x1), (2, .inl x2), (3, .inl x3), (4, .inl x4)] [] h (qI Q) → Go i_X3_howManyLike 5 [(0, .inr (.inr x0)), (1, .inl x1), (2, .inl x2), (3, .inl x3), (4, .inl x4)] [] h (qI Q) := fun _ _ h z => z
  refine s_iload d_X3_howManyLike_5 (ma 4 rfl) ?_
  refine s_bipush d_X3_howManyLike_7 (by decide) (okn rfl) ?_
  refine s_icmp_ge (tgt := 50) d_X3_howManyLike_9 (by decide) (fun c => ?_) (fun c => ?_)
  · have hV := hV.1 c
    refine s_iload_n d_X3_howManyLike_50 rfl (ma 3 rfl) ?_
    exact s_iret d_X3_howManyLike_51 rfl rfl ⟨_, rfl, hV⟩
  · have hV := hV.2 c
    refine s_iload_n d_X3_howManyLike_12 rfl (ma 2 rfl) ?_
    refine s_iload d_X3_howManyLike_13 (ma 4 rfl) ?_
    refine s_ishr d_X3_howManyLike_15 ?_
    refine s_iconst d_X3_howManyLike_16 (okn rfl) ?_
    refine s_iand d_X3_howManyLike_17 ?_
    refine s_iconst d_X3_howManyLike_18 (okn rfl) ?_
    refine s_icmp_ne (tgt := 44) d_X3_howManyLike_19 (by decide) (fun c => ?_) (fun c => ?_)
    · have hV := hV.1 c
      obtain ⟨o, hV⟩ := hV
      refine s_iinc (lv' := [(4, .inl (x4 + 1)), (0, .inr (.inr x0)), (1, .inl x1), (2, .inl x2), (3, .inl x3)]) d_X3_howManyLike_44 (ma 4 rfl) o (Nat.le_of_ble_eq_true rfl) rfl ?_
      refine s_goto (tgt := 5) d_X3_howManyLike_47 (by decide) ?_
      refine s_pick (lv' := [(0, .inr (.inr x0)), (1, .inl x1), (2, .inl x2), (3, .inl x3), (4, .inl (x4 + 1))]) [1, 2, 3, 4, 0] rfl ?_
      exact hP5 _ _ _ hV
    · have hV := hV.2 c
      refine s_aload_n d_X3_howManyLike_22 rfl (ma 0 rfl) ?_
      obtain ⟨o, hV⟩ := hV
      refine f_RX3_24g rfl d_X3_howManyLike_23 o ?_
      refine s_iload_n d_X3_howManyLike_26 rfl (ma 1 rfl) ?_
      obtain ⟨o, hV⟩ := hV
      refine s_aald d_X3_howManyLike_27 (Or.inl o.1) o.2.1 o.2.2 ?_
      refine s_aload_n d_X3_howManyLike_28 rfl (ma 0 rfl) ?_
      obtain ⟨o, hV⟩ := hV
      refine f_RX3_24g rfl d_X3_howManyLike_29 o ?_
      refine s_iload d_X3_howManyLike_32 (ma 4 rfl) ?_
      obtain ⟨o, hV⟩ := hV
      refine s_aald d_X3_howManyLike_34 (Or.inl o.1) o.2.1 o.2.2 ?_
      obtain ⟨o, hV⟩ := hV
      refine v_RX3_51 rfl (Nat.le_of_ble_eq_true rfl) d_X3_howManyLike_35 o (Nat.le_of_ble_eq_true rfl) hV (fun r2 h1 hV => ?_)
      refine s_if_eq (tgt := 44) d_X3_howManyLike_38 (by decide) (fun c => ?_) (fun c => ?_)
      · have hV := hV.1 c
        obtain ⟨o, hV⟩ := hV
        refine s_iinc (lv' := [(4, .inl (x4 + 1)), (0, .inr (.inr x0)), (1, .inl x1), (2, .inl x2), (3, .inl x3)]) d_X3_howManyLike_44 (ma 4 rfl) o (Nat.le_of_ble_eq_true rfl) rfl ?_
        refine s_goto (tgt := 5) d_X3_howManyLike_47 (by decide) ?_
        refine s_pick (lv' := [(0, .inr (.inr x0)), (1, .inl x1), (2, .inl x2), (3, .inl x3), (4, .inl (x4 + 1))]) [1, 2, 3, 4, 0] rfl ?_
        exact hP5 _ _ _ hV
      · have hV := hV.2 c
        obtain ⟨o, hV⟩ := hV
        refine s_iinc (lv' := [(3, .inl (x3 + 1)), (0, .inr (.inr x0)), (1, .inl x1), (2, .inl x2), (4, .inl x4)]) d_X3_howManyLike_41 (ma 3 rfl) o (Nat.le_of_ble_eq_true rfl) rfl ?_
        obtain ⟨o, hV⟩ := hV
        refine s_iinc (lv' := [(4, .inl (x4 + 1)), (3, .inl (x3 + 1)), (0, .inr (.inr x0)), (1, .inl x1), (2, .inl x2)]) d_X3_howManyLike_44 (ma 4 rfl) o (Nat.le_of_ble_eq_true rfl) rfl ?_
        refine s_goto (tgt := 5) d_X3_howManyLike_47 (by decide) ?_
        refine s_pick (lv' := [(0, .inr (.inr x0)), (1, .inl x1), (2, .inl x2), (3, .inl (x3 + 1)), (4, .inl (x4 + 1))]) [2, 3, 4, 1, 0] rfl ?_
        exact hP5 _ _ _ hV
def V_X3_howManyLike (x0 : Nat) (x1 : Int) (x2 : Int) (h : Hp) (Q : Int → Hp → Prop) : Prop :=
  Lp_X3_howManyLike_5 x0 x1 x2 0 0 h Q
theorem G_X3_howManyLike {x0 : Nat} {x1 : Int} {x2 : Int} (h : Hp) (Q : Int → Hp → Prop) (hV : V_X3_howManyLike x0 x1 x2 h Q) : C_X3_howManyLike x0 x1 x2 h Q := by
  unfold V_X3_howManyLike at hV
  show Go i_X3_howManyLike 0 [(0, .inr (.inr x0)), (1, .inl x1), (2, .inl x2)] [] h (qI Q)
  refine s_iconst d_X3_howManyLike_0 (okn rfl) ?_
  refine s_istore_n (lv' := [(3, .inl 0), (0, .inr (.inr x0)), (1, .inl x1), (2, .inl x2)]) d_X3_howManyLike_1 rfl (Nat.le_of_ble_eq_true rfl) rfl ?_
  refine s_iconst d_X3_howManyLike_2 (okn rfl) ?_
  refine s_istore (lv' := [(4, .inl 0), (3, .inl 0), (0, .inr (.inr x0)), (1, .inl x1), (2, .inl x2)]) d_X3_howManyLike_3 (Nat.le_of_ble_eq_true rfl) rfl ?_
  refine s_pick (lv' := [(0, .inr (.inr x0)), (1, .inl x1), (2, .inl x2), (3, .inl 0), (4, .inl 0)]) [2, 3, 4, 1, 0] rfl ?_
  exact GLp_X3_howManyLike_5 _ _ _ _ _ _ _ hV
