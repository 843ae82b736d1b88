/-! printed by wip/gen/gen.py: Main -/
theorem d_X11_init_0 : decode i_X11_init.2.1 0 = .ok (.aload_n 0, 1) := by decide +kernel
theorem d_X11_init_1 : decode i_X11_init.2.1 1 = .ok (.invokespecial 1, 3) := by decide +kernel
theorem d_X11_init_4 : decode i_X11_init.2.1 4 = .ok (.aload_n 0, 1) := by decide +kernel
theorem d_X11_init_5 : decode i_X11_init.2.1 5 = .ok (.new 7, 3) := by decide +kernel
theorem d_X11_init_8 : decode i_X11_init.2.1 8 = .ok (.dup, 1) := by decide +kernel
theorem d_X11_init_9 : decode i_X11_init.2.1 9 = .ok (.invokespecial 9, 3) := by decide +kernel
theorem d_X11_init_12 : decode i_X11_init.2.1 12 = .ok (.putfield 10, 3) := by decide +kernel
theorem d_X11_init_15 : decode i_X11_init.2.1 15 = .ok (.aload_n 0, 1) := by decide +kernel
theorem d_X11_init_16 : decode i_X11_init.2.1 16 = .ok (.new 16, 3) := by decide +kernel
theorem d_X11_init_19 : decode i_X11_init.2.1 19 = .ok (.dup, 1) := by decide +kernel
theorem d_X11_init_20 : decode i_X11_init.2.1 20 = .ok (.invokespecial 18, 3) := by decide +kernel
theorem d_X11_init_23 : decode i_X11_init.2.1 23 = .ok (.putfield 19, 3) := by decide +kernel
theorem d_X11_init_26 : decode i_X11_init.2.1 26 = .ok (.aload_n 0, 1) := by decide +kernel
theorem d_X11_init_27 : decode i_X11_init.2.1 27 = .ok (.new 23, 3) := by decide +kernel
theorem d_X11_init_30 : decode i_X11_init.2.1 30 = .ok (.dup, 1) := by decide +kernel
theorem d_X11_init_31 : decode i_X11_init.2.1 31 = .ok (.invokespecial 25, 3) := by decide +kernel
theorem d_X11_init_34 : decode i_X11_init.2.1 34 = .ok (.putfield 26, 3) := by decide +kernel
theorem d_X11_init_37 : decode i_X11_init.2.1 37 = .ok (.aload_n 0, 1) := by decide +kernel
theorem d_X11_init_38 : decode i_X11_init.2.1 38 = .ok (.new 30, 3) := by decide +kernel
theorem d_X11_init_41 : decode i_X11_init.2.1 41 = .ok (.dup, 1) := by decide +kernel
theorem d_X11_init_42 : decode i_X11_init.2.1 42 = .ok (.invokespecial 32, 3) := by decide +kernel
theorem d_X11_init_45 : decode i_X11_init.2.1 45 = .ok (.putfield 33, 3) := by decide +kernel
theorem d_X11_init_48 : decode i_X11_init.2.1 48 = .ok (.aload_n 0, 1) := by decide +kernel
theorem d_X11_init_49 : decode i_X11_init.2.1 49 = .ok (.new 37, 3) := by decide +kernel
theorem d_X11_init_52 : decode i_X11_init.2.1 52 = .ok (.dup, 1) := by decide +kernel
theorem d_X11_init_53 : decode i_X11_init.2.1 53 = .ok (.invokespecial 39, 3) := by decide +kernel
theorem d_X11_init_56 : decode i_X11_init.2.1 56 = .ok (.putfield 40, 3) := by decide +kernel
theorem d_X11_init_59 : decode i_X11_init.2.1 59 = .ok (.aload_n 0, 1) := by decide +kernel
theorem d_X11_init_60 : decode i_X11_init.2.1 60 = .ok (.new 44, 3) := by decide +kernel
theorem d_X11_init_63 : decode i_X11_init.2.1 63 = .ok (.dup, 1) := by decide +kernel
theorem d_X11_init_64 : decode i_X11_init.2.1 64 = .ok (.invokespecial 46, 3) := by decide +kernel
theorem d_X11_init_67 : decode i_X11_init.2.1 67 = .ok (.putfield 47, 3) := by decide +kernel
theorem d_X11_init_70 : decode i_X11_init.2.1 70 = .ok (.aload_n 0, 1) := by decide +kernel
theorem d_X11_init_71 : decode i_X11_init.2.1 71 = .ok (.new 51, 3) := by decide +kernel
theorem d_X11_init_74 : decode i_X11_init.2.1 74 = .ok (.dup, 1) := by decide +kernel
theorem d_X11_init_75 : decode i_X11_init.2.1 75 = .ok (.invokespecial 53, 3) := by decide +kernel
theorem d_X11_init_78 : decode i_X11_init.2.1 78 = .ok (.putfield 54, 3) := by decide +kernel
theorem d_X11_init_81 : decode i_X11_init.2.1 81 = .ok (.aload_n 0, 1) := by decide +kernel
theorem d_X11_init_82 : decode i_X11_init.2.1 82 = .ok (.new 58, 3) := by decide +kernel
theorem d_X11_init_85 : decode i_X11_init.2.1 85 = .ok (.dup, 1) := by decide +kernel
theorem d_X11_init_86 : decode i_X11_init.2.1 86 = .ok (.invokespecial 60, 3) := by decide +kernel
theorem d_X11_init_89 : decode i_X11_init.2.1 89 = .ok (.putfield 61, 3) := by decide +kernel
theorem d_X11_init_92 : decode i_X11_init.2.1 92 = .ok (.aload_n 0, 1) := by decide +kernel
theorem d_X11_init_93 : decode i_X11_init.2.1 93 = .ok (.new 65, 3) := by decide +kernel
theorem d_X11_init_96 : decode i_X11_init.2.1 96 = .ok (.dup, 1) := by decide +kernel
theorem d_X11_init_97 : decode i_X11_init.2.1 97 = .ok (.invokespecial 67, 3) := by decide +kernel
theorem d_X11_init_100 : decode i_X11_init.2.1 100 = .ok (.putfield 68, 3) := by decide +kernel
theorem d_X11_init_103 : decode i_X11_init.2.1 103 = .ok (.aload_n 0, 1) := by decide +kernel
theorem d_X11_init_104 : decode i_X11_init.2.1 104 = .ok (.new 72, 3) := by decide +kernel
theorem d_X11_init_107 : decode i_X11_init.2.1 107 = .ok (.dup, 1) := by decide +kernel
theorem d_X11_init_108 : decode i_X11_init.2.1 108 = .ok (.bipush 120, 2) := by decide +kernel
theorem d_X11_init_110 : decode i_X11_init.2.1 110 = .ok (.invokespecial 74, 3) := by decide +kernel
theorem d_X11_init_113 : decode i_X11_init.2.1 113 = .ok (.putfield 77, 3) := by decide +kernel
theorem d_X11_init_116 : decode i_X11_init.2.1 116 = .ok (.return_, 1) := by decide +kernel
def V_X11_init (x0 : Nat) (h : Hp) (Q : Hp → Prop) : Prop :=
  hK h x0 = 10 ∧ (∀ n1 : Nat, n1 = hN h → ∀ h2 : Hp, h2 = al h 1 0 7 → (hK h2 n1 = 1 ∧ C_X1_init n1  h2 (fun h3 => (hK h3 x0 = 10 ∧ ∀ h4 : Hp, h4 = wR h3 x0 0 n1 → (∀ n5 : Nat, n5 = hN h4 → ∀ h6 : Hp, h6 = al h4 9 0 4 → (hK h6 n5 = 9 ∧ C_X10_init n5  h6 (fun h7 => (hK h7 x0 = 10 ∧ ∀ h8 : Hp, h8 = wR h7 x0 1 n5 → (∀ n9 : Nat, n9 = hN h8 → ∀ h10 : Hp, h10 = al h8 7 0 5 → (hK h10 n9 = 7 ∧ C_X8_init n9  h10 (fun h11 => (hK h11 x0 = 10 ∧ ∀ h12 : Hp, h12 = wR h11 x0 2 n9 → (∀ n13 : Nat, n13 = hN h12 → ∀ h14 : Hp, h14 = al h12 6 0 3 → (hK h14 n13 = 6 ∧ C_X6_init n13  h14 (fun h15 => (hK h15 x0 = 10 ∧ ∀ h16 : Hp, h16 = wR h15 x0 3 n13 → (∀ n17 : Nat, n17 = hN h16 → ∀ h18 : Hp, h18 = al h16 4 0 3 → (hK h18 n17 = 4 ∧ C_X4_init n17  h18 (fun h19 => (hK h19 x0 = 10 ∧ ∀ h20 : Hp, h20 = wR h19 x0 4 n17 → (∀ n21 : Nat, n21 = hN h20 → ∀ h22 : Hp, h22 = al h20 3 0 5 → (hK h22 n21 = 3 ∧ C_X3_init n21  h22 (fun h23 => (hK h23 x0 = 10 ∧ ∀ h24 : Hp, h24 = wR h23 x0 5 n21 → (∀ n25 : Nat, n25 = hN h24 → ∀ h26 : Hp, h26 = al h24 0 0 3 → (hK h26 n25 = 0 ∧ C_X0_init n25  h26 (fun h27 => (hK h27 x0 = 10 ∧ ∀ h28 : Hp, h28 = wR h27 x0 6 n25 → (∀ n29 : Nat, n29 = hN h28 → ∀ h30 : Hp, h30 = al h28 8 0 4 → (hK h30 n29 = 8 ∧ C_X9_init n29  h30 (fun h31 => (hK h31 x0 = 10 ∧ ∀ h32 : Hp, h32 = wR h31 x0 7 n29 → (∀ n33 : Nat, n33 = hN h32 → ∀ h34 : Hp, h34 = al h32 5 0 3 → (hK h34 n33 = 5 ∧ C_X5_init n33  h34 (fun h35 => (hK h35 x0 = 10 ∧ ∀ h36 : Hp, h36 = wR h35 x0 8 n33 → (∀ n37 : Nat, n37 = hN h36 → ∀ h38 : Hp, h38 = al h36 2 0 2 → (hK h38 n37 = 2 ∧ C_X2_init n37 120 h38 (fun h39 => (hK h39 x0 = 10 ∧ ∀ h40 : Hp, h40 = wR h39 x0 9 n37 → (Q h40)))))))))))))))))))))))))))))))))))))))))
theorem G_X11_init {x0 : Nat} (h : Hp) (Q : Hp → Prop) (hV : V_X11_init x0 h Q) : C_X11_init x0 h Q := by
  unfold V_X11_init at hV
  show Go i_X11_init 0 [(0, .inr (.inr x0))] [] h (qV Q)
  refine s_aload_n d_X11_init_0 rfl (ma 0 rfl) ?_
  obtain ⟨o, hV⟩ := hV
  refine s_objInit d_X11_init_1 ob_RX11_1 (Nat.le_of_ble_eq_true rfl) rfl (by rw [o]; decide) ?_
  refine s_aload_n d_X11_init_4 rfl (ma 0 rfl) ?_
  refine s_new (ci := 1) d_X11_init_5 rfl q_RX11_7 ?_
  refine s_nmA (fun n1 en1 => ?_)
  refine s_nmH (fun h2 eh2 => ?_)
  have hV := hV n1 en1 h2 eh2
  refine s_dup d_X11_init_8 rfl ?_
  obtain ⟨o, hV⟩ := hV
  refine v_RX11_9 rfl (Nat.le_of_ble_eq_true rfl) d_X11_init_9 o (Nat.le_of_ble_eq_true rfl) hV (fun h3 hV => ?_)
  obtain ⟨o, hV⟩ := hV
  refine f_RX11_10p rfl rfl d_X11_init_12 o (fun h4 eh4 => ?_)
  have hV := hV h4 eh4
  refine s_aload_n d_X11_init_15 rfl (ma 0 rfl) ?_
  refine s_new (ci := 9) d_X11_init_16 rfl q_RX11_16 ?_
  refine s_nmA (fun n5 en5 => ?_)
  refine s_nmH (fun h6 eh6 => ?_)
  have hV := hV n5 en5 h6 eh6
  refine s_dup d_X11_init_19 rfl ?_
  obtain ⟨o, hV⟩ := hV
  refine v_RX11_18 rfl (Nat.le_of_ble_eq_true rfl) d_X11_init_20 o (Nat.le_of_ble_eq_true rfl) hV (fun h7 hV => ?_)
  obtain ⟨o, hV⟩ := hV
  refine f_RX11_19p rfl rfl d_X11_init_23 o (fun h8 eh8 => ?_)
  have hV := hV h8 eh8
  refine s_aload_n d_X11_init_26 rfl (ma 0 rfl) ?_
  refine s_new (ci := 7) d_X11_init_27 rfl q_RX11_23 ?_
  refine s_nmA (fun n9 en9 => ?_)
  refine s_nmH (fun h10 eh10 => ?_)
  have hV := hV n9 en9 h10 eh10
  refine s_dup d_X11_init_30 rfl ?_
  obtain ⟨o, hV⟩ := hV
  refine v_RX11_25 rfl (Nat.le_of_ble_eq_true rfl) d_X11_init_31 o (Nat.le_of_ble_eq_true rfl) hV (fun h11 hV => ?_)
  obtain ⟨o, hV⟩ := hV
  refine f_RX11_26p rfl rfl d_X11_init_34 o (fun h12 eh12 => ?_)
  have hV := hV h12 eh12
  refine s_aload_n d_X11_init_37 rfl (ma 0 rfl) ?_
  refine s_new (ci := 6) d_X11_init_38 rfl q_RX11_30 ?_
  refine s_nmA (fun n13 en13 => ?_)
  refine s_nmH (fun h14 eh14 => ?_)
  have hV := hV n13 en13 h14 eh14
  refine s_dup d_X11_init_41 rfl ?_
  obtain ⟨o, hV⟩ := hV
  refine v_RX11_32 rfl (Nat.le_of_ble_eq_true rfl) d_X11_init_42 o (Nat.le_of_ble_eq_true rfl) hV (fun h15 hV => ?_)
  obtain ⟨o, hV⟩ := hV
  refine f_RX11_33p rfl rfl d_X11_init_45 o (fun h16 eh16 => ?_)
  have hV := hV h16 eh16
  refine s_aload_n d_X11_init_48 rfl (ma 0 rfl) ?_
  refine s_new (ci := 4) d_X11_init_49 rfl q_RX11_37 ?_
  refine s_nmA (fun n17 en17 => ?_)
  refine s_nmH (fun h18 eh18 => ?_)
  have hV := hV n17 en17 h18 eh18
  refine s_dup d_X11_init_52 rfl ?_
  obtain ⟨o, hV⟩ := hV
  refine v_RX11_39 rfl (Nat.le_of_ble_eq_true rfl) d_X11_init_53 o (Nat.le_of_ble_eq_true rfl) hV (fun h19 hV => ?_)
  obtain ⟨o, hV⟩ := hV
  refine f_RX11_40p rfl rfl d_X11_init_56 o (fun h20 eh20 => ?_)
  have hV := hV h20 eh20
  refine s_aload_n d_X11_init_59 rfl (ma 0 rfl) ?_
  refine s_new (ci := 3) d_X11_init_60 rfl q_RX11_44 ?_
  refine s_nmA (fun n21 en21 => ?_)
  refine s_nmH (fun h22 eh22 => ?_)
  have hV := hV n21 en21 h22 eh22
  refine s_dup d_X11_init_63 rfl ?_
  obtain ⟨o, hV⟩ := hV
  refine v_RX11_46 rfl (Nat.le_of_ble_eq_true rfl) d_X11_init_64 o (Nat.le_of_ble_eq_true rfl) hV (fun h23 hV => ?_)
  obtain ⟨o, hV⟩ := hV
  refine f_RX11_47p rfl rfl d_X11_init_67 o (fun h24 eh24 => ?_)
  have hV := hV h24 eh24
  refine s_aload_n d_X11_init_70 rfl (ma 0 rfl) ?_
  refine s_new (ci := 0) d_X11_init_71 rfl q_RX11_51 ?_
  refine s_nmA (fun n25 en25 => ?_)
  refine s_nmH (fun h26 eh26 => ?_)
  have hV := hV n25 en25 h26 eh26
  refine s_dup d_X11_init_74 rfl ?_
  obtain ⟨o, hV⟩ := hV
  refine v_RX11_53 rfl (Nat.le_of_ble_eq_true rfl) d_X11_init_75 o (Nat.le_of_ble_eq_true rfl) hV (fun h27 hV => ?_)
  obtain ⟨o, hV⟩ := hV
  refine f_RX11_54p rfl rfl d_X11_init_78 o (fun h28 eh28 => ?_)
  have hV := hV h28 eh28
  refine s_aload_n d_X11_init_81 rfl (ma 0 rfl) ?_
  refine s_new (ci := 8) d_X11_init_82 rfl q_RX11_58 ?_
  refine s_nmA (fun n29 en29 => ?_)
  refine s_nmH (fun h30 eh30 => ?_)
  have hV := hV n29 en29 h30 eh30
  refine s_dup d_X11_init_85 rfl ?_
  obtain ⟨o, hV⟩ := hV
  refine v_RX11_60 rfl (Nat.le_of_ble_eq_true rfl) d_X11_init_86 o (Nat.le_of_ble_eq_true rfl) hV (fun h31 hV => ?_)
  obtain ⟨o, hV⟩ := hV
  refine f_RX11_61p rfl rfl d_X11_init_89 o (fun h32 eh32 => ?_)
  have hV := hV h32 eh32
  refine s_aload_n d_X11_init_92 rfl (ma 0 rfl) ?_
  refine s_new (ci := 5) d_X11_init_93 rfl q_RX11_65 ?_
  refine s_nmA (fun n33 en33 => ?_)
  refine s_nmH (fun h34 eh34 => ?_)
  have hV := hV n33 en33 h34 eh34
  refine s_dup d_X11_init_96 rfl ?_
  obtain ⟨o, hV⟩ := hV
  refine v_RX11_67 rfl (Nat.le_of_ble_eq_true rfl) d_X11_init_97 o (Nat.le_of_ble_eq_true rfl) hV (fun h35 hV => ?_)
  obtain ⟨o, hV⟩ := hV
  refine f_RX11_68p rfl rfl d_X11_init_100 o (fun h36 eh36 => ?_)
  have hV := hV h36 eh36
  refine s_aload_n d_X11_init_103 rfl (ma 0 rfl) ?_
  refine s_new (ci := 2) d_X11_init_104 rfl q_RX11_72 ?_
  refine s_nmA (fun n37 en37 => ?_)
  refine s_nmH (fun h38 eh38 => ?_)
  have hV := hV n37 en37 h38 eh38
  refine s_dup d_X11_init_107 rfl ?_
  refine s_bipush d_X11_init_108 (by decide) (okn rfl) ?_
  obtain ⟨o, hV⟩ := hV
  refine v_RX11_74 rfl (Nat.le_of_ble_eq_true rfl) d_X11_init_110 o (Nat.le_of_ble_eq_true rfl) hV (fun h39 hV => ?_)
  obtain ⟨o, hV⟩ := hV
  refine f_RX11_77p rfl rfl d_X11_init_113 o (fun h40 eh40 => ?_)
  have hV := hV h40 eh40
  exact s_vret d_X11_init_116 rfl ⟨rfl, hV⟩

theorem d_X11_feed_0 : decode i_X11_feed.2.1 0 = .ok (.iload_n 1, 1) := by decide +kernel
theorem d_X11_feed_1 : decode i_X11_feed.2.1 1 = .ok (.ifCond .lt 10, 3) := by decide +kernel
theorem d_X11_feed_4 : decode i_X11_feed.2.1 4 = .ok (.iload_n 1, 1) := by decide +kernel
theorem d_X11_feed_5 : decode i_X11_feed.2.1 5 = .ok (.sipush 255, 3) := by decide +kernel
theorem d_X11_feed_8 : decode i_X11_feed.2.1 8 = .ok (.if_icmp .le 6, 3) := by decide +kernel
theorem d_X11_feed_11 : decode i_X11_feed.2.1 11 = .ok (.ldc 81, 2) := by decide +kernel
theorem d_X11_feed_13 : decode i_X11_feed.2.1 13 = .ok (.ireturn, 1) := by decide +kernel
theorem d_X11_feed_14 : decode i_X11_feed.2.1 14 = .ok (.aload_n 0, 1) := by decide +kernel
theorem d_X11_feed_15 : decode i_X11_feed.2.1 15 = .ok (.getfield 10, 3) := by decide +kernel
theorem d_X11_feed_18 : decode i_X11_feed.2.1 18 = .ok (.iload_n 1, 1) := by decide +kernel
theorem d_X11_feed_19 : decode i_X11_feed.2.1 19 = .ok (.invokevirtual 82, 3) := by decide +kernel
theorem d_X11_feed_22 : decode i_X11_feed.2.1 22 = .ok (.ifCond .eq 13, 3) := by decide +kernel
theorem d_X11_feed_25 : decode i_X11_feed.2.1 25 = .ok (.aload_n 0, 1) := by decide +kernel
theorem d_X11_feed_26 : decode i_X11_feed.2.1 26 = .ok (.getfield 10, 3) := by decide +kernel
theorem d_X11_feed_29 : decode i_X11_feed.2.1 29 = .ok (.getfield 86, 3) := by decide +kernel
theorem d_X11_feed_32 : decode i_X11_feed.2.1 32 = .ok (.goto 5, 3) := by decide +kernel
theorem d_X11_feed_35 : decode i_X11_feed.2.1 35 = .ok (.ldc 90, 2) := by decide +kernel
theorem d_X11_feed_37 : decode i_X11_feed.2.1 37 = .ok (.ireturn, 1) := by decide +kernel
def V_X11_feed (x0 : Nat) (x1 : Int) (h : Hp) (Q : Int → Hp → Prop) : Prop :=
  (x1 < 0 → (Q (-1000000002) h)) ∧ (¬ x1 < 0 → ((x1 ≤ 255 → (hK h x0 = 10 ∧ (hK h (hR h x0 0) = 1 ∧ C_X1_append (hR h x0 0) x1 h (fun r2 h1 => ((r2 = 0 → (Q (-1000000004) h1)) ∧ (¬ r2 = 0 → (hK h1 x0 = 10 ∧ (hK h1 (hR h1 x0 0) = 1 ∧ (Q (hI h1 (hR h1 x0 0) 3) h1))))))))) ∧ (¬ x1 ≤ 255 → (Q (-1000000002) h))))
theorem G_X11_feed {x0 : Nat} {x1 : Int} (h : Hp) (Q : Int → Hp → Prop) (hV : V_X11_feed x0 x1 h Q) : C_X11_feed x0 x1 h Q := by
  unfold V_X11_feed at hV
  show Go i_X11_feed 0 [(0, .inr (.inr x0)), (1, .inl x1)] [] h (qI Q)
  refine s_iload_n d_X11_feed_0 rfl (ma 1 rfl) ?_
  refine s_if_lt (tgt := 11) d_X11_feed_1 (by decide) (fun c => ?_) (fun c => ?_)
  · have hV := hV.1 c
    refine s_ldc (n := (-1000000002)) d_X11_feed_11 k_RX11_81 (by decide) (okn rfl) ?_
    exact s_iret d_X11_feed_13 rfl rfl ⟨_, rfl, hV⟩
  · have hV := hV.2 c
    refine s_iload_n d_X11_feed_4 rfl (ma 1 rfl) ?_
    refine s_sipush d_X11_feed_5 (by decide) (okn rfl) ?_
    refine s_icmp_le (tgt := 14) d_X11_feed_8 (by decide) (fun c => ?_) (fun c => ?_)
    · have hV := hV.1 c
      refine s_aload_n d_X11_feed_14 rfl (ma 0 rfl) ?_
      obtain ⟨o, hV⟩ := hV
      refine f_RX11_10g rfl d_X11_feed_15 o ?_
      refine s_iload_n d_X11_feed_18 rfl (ma 1 rfl) ?_
      obtain ⟨o, hV⟩ := hV
      refine v_RX11_82 rfl (Nat.le_of_ble_eq_true rfl) d_X11_feed_19 o (Nat.le_of_ble_eq_true rfl) hV (fun r2 h1 hV => ?_)
      refine s_if_eq (tgt := 35) d_X11_feed_22 (by decide) (fun c => ?_) (fun c => ?_)
      · have hV := hV.1 c
        refine s_ldc (n := (-1000000004)) d_X11_feed_35 k_RX11_90 (by decide) (okn rfl) ?_
        exact s_iret d_X11_feed_37 rfl rfl ⟨_, rfl, hV⟩
      · have hV := hV.2 c
        refine s_aload_n d_X11_feed_25 rfl (ma 0 rfl) ?_
        obtain ⟨o, hV⟩ := hV
        refine f_RX11_10g rfl d_X11_feed_26 o ?_
        obtain ⟨o, hV⟩ := hV
        refine f_RX11_86g rfl d_X11_feed_29 o ?_
        refine s_goto (tgt := 37) d_X11_feed_32 (by decide) ?_
        exact s_iret d_X11_feed_37 rfl rfl ⟨_, rfl, hV⟩
    · have hV := hV.2 c
      refine s_ldc (n := (-1000000002)) d_X11_feed_11 k_RX11_81 (by decide) (okn rfl) ?_
      exact s_iret d_X11_feed_13 rfl rfl ⟨_, rfl, hV⟩

theorem d_X11_desk_0 : decode i_X11_desk.2.1 0 = .ok (.aload_n 0, 1) := by decide +kernel
theorem d_X11_desk_1 : decode i_X11_desk.2.1 1 = .ok (.getfield 10, 3) := by decide +kernel
theorem d_X11_desk_4 : decode i_X11_desk.2.1 4 = .ok (.invokevirtual 91, 3) := by decide +kernel
theorem d_X11_desk_7 : decode i_X11_desk.2.1 7 = .ok (.aload_n 0, 1) := by decide +kernel
theorem d_X11_desk_8 : decode i_X11_desk.2.1 8 = .ok (.getfield 10, 3) := by decide +kernel
theorem d_X11_desk_11 : decode i_X11_desk.2.1 11 = .ok (.iconst 0, 1) := by decide +kernel
theorem d_X11_desk_12 : decode i_X11_desk.2.1 12 = .ok (.putfield 86, 3) := by decide +kernel
theorem d_X11_desk_15 : decode i_X11_desk.2.1 15 = .ok (.aload_n 0, 1) := by decide +kernel
theorem d_X11_desk_16 : decode i_X11_desk.2.1 16 = .ok (.getfield 10, 3) := by decide +kernel
theorem d_X11_desk_19 : decode i_X11_desk.2.1 19 = .ok (.getfield 94, 3) := by decide +kernel
theorem d_X11_desk_22 : decode i_X11_desk.2.1 22 = .ok (.ifCond .eq 14, 3) := by decide +kernel
theorem d_X11_desk_25 : decode i_X11_desk.2.1 25 = .ok (.bipush (-10), 2) := by decide +kernel
theorem d_X11_desk_27 : decode i_X11_desk.2.1 27 = .ok (.aload_n 0, 1) := by decide +kernel
theorem d_X11_desk_28 : decode i_X11_desk.2.1 28 = .ok (.getfield 10, 3) := by decide +kernel
theorem d_X11_desk_31 : decode i_X11_desk.2.1 31 = .ok (.getfield 94, 3) := by decide +kernel
theorem d_X11_desk_34 : decode i_X11_desk.2.1 34 = .ok (.isub, 1) := by decide +kernel
theorem d_X11_desk_35 : decode i_X11_desk.2.1 35 = .ok (.ireturn, 1) := by decide +kernel
theorem d_X11_desk_36 : decode i_X11_desk.2.1 36 = .ok (.aload_n 0, 1) := by decide +kernel
theorem d_X11_desk_37 : decode i_X11_desk.2.1 37 = .ok (.invokevirtual 97, 3) := by decide +kernel
theorem d_X11_desk_40 : decode i_X11_desk.2.1 40 = .ok (.aload_n 0, 1) := by decide +kernel
theorem d_X11_desk_41 : decode i_X11_desk.2.1 41 = .ok (.getfield 26, 3) := by decide +kernel
theorem d_X11_desk_44 : decode i_X11_desk.2.1 44 = .ok (.getfield 100, 3) := by decide +kernel
theorem d_X11_desk_47 : decode i_X11_desk.2.1 47 = .ok (.getfield 103, 3) := by decide +kernel
theorem d_X11_desk_50 : decode i_X11_desk.2.1 50 = .ok (.ireturn, 1) := by decide +kernel
def V_X11_desk (x0 : Nat) (h : Hp) (Q : Int → Hp → Prop) : Prop :=
  hK h x0 = 10 ∧ (hK h (hR h x0 0) = 1 ∧ C_X1_parse (hR h x0 0)  h (fun h1 => (hK h1 x0 = 10 ∧ (hK h1 (hR h1 x0 0) = 1 ∧ ∀ h2 : Hp, h2 = wI h1 (hR h1 x0 0) 3 0 → (hK h2 x0 = 10 ∧ (hK h2 (hR h2 x0 0) = 1 ∧ ((hI h2 (hR h2 x0 0) 4 = 0 → (hK h2 x0 = 10 ∧ C_X11_layDesk x0  h2 (fun h3 => (hK h3 x0 = 10 ∧ (hK h3 (hR h3 x0 2) = 7 ∧ (hK h3 (hR h3 (hR h3 x0 2) 0) = 2 ∧ (Q (hI h3 (hR h3 (hR h3 x0 2) 0) 1) h3))))))) ∧ (¬ hI h2 (hR h2 x0 0) 4 = 0 → (hK h2 x0 = 10 ∧ (hK h2 (hR h2 x0 0) = 1 ∧ (((-2147483648 : Int) ≤ (-10) - (hI h2 (hR h2 x0 0) 4) ∧ (-10) - (hI h2 (hR h2 x0 0) 4) ≤ (2147483647 : Int)) ∧ (Q ((-10) - (hI h2 (hR h2 x0 0) 4)) h2))))))))))))
theorem G_X11_desk {x0 : Nat} (h : Hp) (Q : Int → Hp → Prop) (hV : V_X11_desk x0 h Q) : C_X11_desk x0 h Q := by
  unfold V_X11_desk at hV
  show Go i_X11_desk 0 [(0, .inr (.inr x0))] [] h (qI Q)
  refine s_aload_n d_X11_desk_0 rfl (ma 0 rfl) ?_
  obtain ⟨o, hV⟩ := hV
  refine f_RX11_10g rfl d_X11_desk_1 o ?_
  obtain ⟨o, hV⟩ := hV
  refine v_RX11_91 rfl (Nat.le_of_ble_eq_true rfl) d_X11_desk_4 o (Nat.le_of_ble_eq_true rfl) hV (fun h1 hV => ?_)
  refine s_aload_n d_X11_desk_7 rfl (ma 0 rfl) ?_
  obtain ⟨o, hV⟩ := hV
  refine f_RX11_10g rfl d_X11_desk_8 o ?_
  refine s_iconst d_X11_desk_11 (okn rfl) ?_
  obtain ⟨o, hV⟩ := hV
  refine f_RX11_86p rfl d_X11_desk_12 o (fun h2 eh2 => ?_)
  have hV := hV h2 eh2
  refine s_aload_n d_X11_desk_15 rfl (ma 0 rfl) ?_
  obtain ⟨o, hV⟩ := hV
  refine f_RX11_10g rfl d_X11_desk_16 o ?_
  obtain ⟨o, hV⟩ := hV
  refine f_RX11_94g rfl d_X11_desk_19 o ?_
  refine s_if_eq (tgt := 36) d_X11_desk_22 (by decide) (fun c => ?_) (fun c => ?_)
  · have hV := hV.1 c
    refine s_aload_n d_X11_desk_36 rfl (ma 0 rfl) ?_
    obtain ⟨o, hV⟩ := hV
    refine v_RX11_97 rfl (Nat.le_of_ble_eq_true rfl) d_X11_desk_37 o (Nat.le_of_ble_eq_true rfl) hV (fun h3 hV => ?_)
    refine s_aload_n d_X11_desk_40 rfl (ma 0 rfl) ?_
    obtain ⟨o, hV⟩ := hV
    refine f_RX11_26g rfl d_X11_desk_41 o ?_
    obtain ⟨o, hV⟩ := hV
    refine f_RX11_100g rfl d_X11_desk_44 o ?_
    obtain ⟨o, hV⟩ := hV
    refine f_RX11_103g rfl d_X11_desk_47 o ?_
    exact s_iret d_X11_desk_50 rfl rfl ⟨_, rfl, hV⟩
  · have hV := hV.2 c
    refine s_bipush d_X11_desk_25 (by decide) (okn rfl) ?_
    refine s_aload_n d_X11_desk_27 rfl (ma 0 rfl) ?_
    obtain ⟨o, hV⟩ := hV
    refine f_RX11_10g rfl d_X11_desk_28 o ?_
    obtain ⟨o, hV⟩ := hV
    refine f_RX11_94g rfl d_X11_desk_31 o ?_
    obtain ⟨o, hV⟩ := hV
    refine s_isub d_X11_desk_34 o ?_
    exact s_iret d_X11_desk_35 rfl rfl ⟨_, rfl, hV⟩

theorem d_X11_layDesk_0 : decode i_X11_layDesk.2.1 0 = .ok (.aload_n 0, 1) := by decide +kernel
theorem d_X11_layDesk_1 : decode i_X11_layDesk.2.1 1 = .ok (.aload_n 0, 1) := by decide +kernel
theorem d_X11_layDesk_2 : decode i_X11_layDesk.2.1 2 = .ok (.getfield 10, 3) := by decide +kernel
theorem d_X11_layDesk_5 : decode i_X11_layDesk.2.1 5 = .ok (.getfield 104, 3) := by decide +kernel
theorem d_X11_layDesk_8 : decode i_X11_layDesk.2.1 8 = .ok (.getfield 103, 3) := by decide +kernel
theorem d_X11_layDesk_11 : decode i_X11_layDesk.2.1 11 = .ok (.ifCond .le 7, 3) := by decide +kernel
theorem d_X11_layDesk_14 : decode i_X11_layDesk.2.1 14 = .ok (.iconst 1, 1) := by decide +kernel
theorem d_X11_layDesk_15 : decode i_X11_layDesk.2.1 15 = .ok (.goto 4, 3) := by decide +kernel
theorem d_X11_layDesk_18 : decode i_X11_layDesk.2.1 18 = .ok (.iconst 0, 1) := by decide +kernel
theorem d_X11_layDesk_19 : decode i_X11_layDesk.2.1 19 = .ok (.putfield 105, 3) := by decide +kernel
theorem d_X11_layDesk_22 : decode i_X11_layDesk.2.1 22 = .ok (.aload_n 0, 1) := by decide +kernel
theorem d_X11_layDesk_23 : decode i_X11_layDesk.2.1 23 = .ok (.getfield 26, 3) := by decide +kernel
theorem d_X11_layDesk_26 : decode i_X11_layDesk.2.1 26 = .ok (.aload_n 0, 1) := by decide +kernel
theorem d_X11_layDesk_27 : decode i_X11_layDesk.2.1 27 = .ok (.getfield 10, 3) := by decide +kernel
theorem d_X11_layDesk_30 : decode i_X11_layDesk.2.1 30 = .ok (.getfield 104, 3) := by decide +kernel
theorem d_X11_layDesk_33 : decode i_X11_layDesk.2.1 33 = .ok (.invokevirtual 109, 3) := by decide +kernel
theorem d_X11_layDesk_36 : decode i_X11_layDesk.2.1 36 = .ok (.aload_n 0, 1) := by decide +kernel
theorem d_X11_layDesk_37 : decode i_X11_layDesk.2.1 37 = .ok (.getfield 19, 3) := by decide +kernel
theorem d_X11_layDesk_40 : decode i_X11_layDesk.2.1 40 = .ok (.aload_n 0, 1) := by decide +kernel
theorem d_X11_layDesk_41 : decode i_X11_layDesk.2.1 41 = .ok (.getfield 10, 3) := by decide +kernel
theorem d_X11_layDesk_44 : decode i_X11_layDesk.2.1 44 = .ok (.getfield 113, 3) := by decide +kernel
theorem d_X11_layDesk_47 : decode i_X11_layDesk.2.1 47 = .ok (.invokevirtual 114, 3) := by decide +kernel
theorem d_X11_layDesk_50 : decode i_X11_layDesk.2.1 50 = .ok (.aload_n 0, 1) := by decide +kernel
theorem d_X11_layDesk_51 : decode i_X11_layDesk.2.1 51 = .ok (.getfield 47, 3) := by decide +kernel
theorem d_X11_layDesk_54 : decode i_X11_layDesk.2.1 54 = .ok (.iconst 0, 1) := by decide +kernel
theorem d_X11_layDesk_55 : decode i_X11_layDesk.2.1 55 = .ok (.putfield 118, 3) := by decide +kernel
theorem d_X11_layDesk_58 : decode i_X11_layDesk.2.1 58 = .ok (.aload_n 0, 1) := by decide +kernel
theorem d_X11_layDesk_59 : decode i_X11_layDesk.2.1 59 = .ok (.getfield 54, 3) := by decide +kernel
theorem d_X11_layDesk_62 : decode i_X11_layDesk.2.1 62 = .ok (.iconst 0, 1) := by decide +kernel
theorem d_X11_layDesk_63 : decode i_X11_layDesk.2.1 63 = .ok (.putfield 119, 3) := by decide +kernel
theorem d_X11_layDesk_66 : decode i_X11_layDesk.2.1 66 = .ok (.aload_n 0, 1) := by decide +kernel
theorem d_X11_layDesk_67 : decode i_X11_layDesk.2.1 67 = .ok (.getfield 40, 3) := by decide +kernel
theorem d_X11_layDesk_70 : decode i_X11_layDesk.2.1 70 = .ok (.invokevirtual 120, 3) := by decide +kernel
theorem d_X11_layDesk_73 : decode i_X11_layDesk.2.1 73 = .ok (.aload_n 0, 1) := by decide +kernel
theorem d_X11_layDesk_74 : decode i_X11_layDesk.2.1 74 = .ok (.getfield 33, 3) := by decide +kernel
theorem d_X11_layDesk_77 : decode i_X11_layDesk.2.1 77 = .ok (.invokevirtual 123, 3) := by decide +kernel
theorem d_X11_layDesk_80 : decode i_X11_layDesk.2.1 80 = .ok (.return_, 1) := by decide +kernel
def J_X11_layDesk_19 (x0 : Nat) (y0 : Int) (y1 : Nat) (h : Hp) (Q : Hp → Prop) : Prop :=
  hK h y1 = 10 ∧ ((y0 : Int) = 0 ∨ (y0 : Int) = 1) ∧ ∀ h1 : Hp, h1 = wI h y1 10 y0 → (hK h1 x0 = 10 ∧ (hK h1 x0 = 10 ∧ (hK h1 (hR h1 x0 0) = 1 ∧ (hK h1 (hR h1 x0 2) = 7 ∧ C_X8_begin (hR h1 x0 2) (hR h1 (hR h1 x0 0) 1) h1 (fun h2 => (hK h2 x0 = 10 ∧ (hK h2 x0 = 10 ∧ (hK h2 (hR h2 x0 0) = 1 ∧ (hK h2 (hR h2 x0 1) = 9 ∧ C_X10_copyFrom (hR h2 x0 1) (hR h2 (hR h2 x0 0) 2) h2 (fun h3 => (hK h3 x0 = 10 ∧ (hK h3 (hR h3 x0 5) = 3 ∧ ∀ h4 : Hp, h4 = wI h3 (hR h3 x0 5) 4 0 → (hK h4 x0 = 10 ∧ (hK h4 (hR h4 x0 6) = 0 ∧ ∀ h5 : Hp, h5 = wI h4 (hR h4 x0 6) 2 0 → (hK h5 x0 = 10 ∧ (hK h5 (hR h5 x0 4) = 4 ∧ C_X4_clear (hR h5 x0 4)  h5 (fun h6 => (hK h6 x0 = 10 ∧ (hK h6 (hR h6 x0 3) = 6 ∧ C_X6_clear (hR h6 x0 3)  h6 (fun h7 => (Q h7)))))))))))))))))))))
theorem GJ_X11_layDesk_19 (x0 : Nat) (y0 : Int) (y1 : Nat) (h : Hp) (Q : Hp → Prop) (hV : J_X11_layDesk_19 x0 y0 y1 h Q) : Go i_X11_layDesk 19 [(0, .inr (.inr x0))] [.inl y0, .inr (.inr y1)] h (qV Q) := by
  unfold J_X11_layDesk_19 at hV
  obtain ⟨o, z, hV⟩ := hV
  refine f_RX11_105p rfl d_X11_layDesk_19 o z (fun h1 eh1 => ?_)
  have hV := hV h1 eh1
  refine s_aload_n d_X11_layDesk_22 rfl (ma 0 rfl) ?_
  obtain ⟨o, hV⟩ := hV
  refine f_RX11_26g rfl d_X11_layDesk_23 o ?_
  refine s_aload_n d_X11_layDesk_26 rfl (ma 0 rfl) ?_
  obtain ⟨o, hV⟩ := hV
  refine f_RX11_10g rfl d_X11_layDesk_27 o ?_
  obtain ⟨o, hV⟩ := hV
  refine f_RX11_104g rfl d_X11_layDesk_30 o ?_
  obtain ⟨o, hV⟩ := hV
  refine v_RX11_109 rfl (Nat.le_of_ble_eq_true rfl) d_X11_layDesk_33 o (Nat.le_of_ble_eq_true rfl) hV (fun h2 hV => ?_)
  refine s_aload_n d_X11_layDesk_36 rfl (ma 0 rfl) ?_
  obtain ⟨o, hV⟩ := hV
  refine f_RX11_19g rfl d_X11_layDesk_37 o ?_
  refine s_aload_n d_X11_layDesk_40 rfl (ma 0 rfl) ?_
  obtain ⟨o, hV⟩ := hV
  refine f_RX11_10g rfl d_X11_layDesk_41 o ?_
  obtain ⟨o, hV⟩ := hV
  refine f_RX11_113g rfl d_X11_layDesk_44 o ?_
  obtain ⟨o, hV⟩ := hV
  refine v_RX11_114 rfl (Nat.le_of_ble_eq_true rfl) d_X11_layDesk_47 o (Nat.le_of_ble_eq_true rfl) hV (fun h3 hV => ?_)
  refine s_aload_n d_X11_layDesk_50 rfl (ma 0 rfl) ?_
  obtain ⟨o, hV⟩ := hV
  refine f_RX11_47g rfl d_X11_layDesk_51 o ?_
  refine s_iconst d_X11_layDesk_54 (okn rfl) ?_
  obtain ⟨o, hV⟩ := hV
  refine f_RX11_118p rfl d_X11_layDesk_55 o (fun h4 eh4 => ?_)
  have hV := hV h4 eh4
  refine s_aload_n d_X11_layDesk_58 rfl (ma 0 rfl) ?_
  obtain ⟨o, hV⟩ := hV
  refine f_RX11_54g rfl d_X11_layDesk_59 o ?_
  refine s_iconst d_X11_layDesk_62 (okn rfl) ?_
  obtain ⟨o, hV⟩ := hV
  refine f_RX11_119p rfl d_X11_layDesk_63 o (fun h5 eh5 => ?_)
  have hV := hV h5 eh5
  refine s_aload_n d_X11_layDesk_66 rfl (ma 0 rfl) ?_
  obtain ⟨o, hV⟩ := hV
  refine f_RX11_40g rfl d_X11_layDesk_67 o ?_
  obtain ⟨o, hV⟩ := hV
  refine v_RX11_120 rfl (Nat.le_of_ble_eq_true rfl) d_X11_layDesk_70 o (Nat.le_of_ble_eq_true rfl) hV (fun h6 hV => ?_)
  refine s_aload_n d_X11_layDesk_73 rfl (ma 0 rfl) ?_
  obtain ⟨o, hV⟩ := hV
  refine f_RX11_33g rfl d_X11_layDesk_74 o ?_
  obtain ⟨o, hV⟩ := hV
  refine v_RX11_123 rfl (Nat.le_of_ble_eq_true rfl) d_X11_layDesk_77 o (Nat.le_of_ble_eq_true rfl) hV (fun h7 hV => ?_)
  exact s_vret d_X11_layDesk_80 rfl ⟨rfl, hV⟩
def V_X11_layDesk (x0 : Nat) (h : Hp) (Q : Hp → Prop) : Prop :=
  hK h x0 = 10 ∧ (hK h (hR h x0 0) = 1 ∧ (hK h (hR h (hR h x0 0) 1) = 2 ∧ ((hI h (hR h (hR h x0 0) 1) 1 ≤ 0 → (J_X11_layDesk_19 x0 0 x0 h Q)) ∧ (¬ hI h (hR h (hR h x0 0) 1) 1 ≤ 0 → (J_X11_layDesk_19 x0 1 x0 h Q)))))
theorem G_X11_layDesk {x0 : Nat} (h : Hp) (Q : Hp → Prop) (hV : V_X11_layDesk x0 h Q) : C_X11_layDesk x0 h Q := by
  unfold V_X11_layDesk at hV
  show Go i_X11_layDesk 0 [(0, .inr (.inr x0))] [] h (qV Q)
  refine s_aload_n d_X11_layDesk_0 rfl (ma 0 rfl) ?_
  refine s_aload_n d_X11_layDesk_1 rfl (ma 0 rfl) ?_
  obtain ⟨o, hV⟩ := hV
  refine f_RX11_10g rfl d_X11_layDesk_2 o ?_
  obtain ⟨o, hV⟩ := hV
  refine f_RX11_104g rfl d_X11_layDesk_5 o ?_
  obtain ⟨o, hV⟩ := hV
  refine f_RX11_103g rfl d_X11_layDesk_8 o ?_
  refine s_if_le (tgt := 18) d_X11_layDesk_11 (by decide) (fun c => ?_) (fun c => ?_)
  · have hV := hV.1 c
    refine s_iconst d_X11_layDesk_18 (okn rfl) ?_
    exact GJ_X11_layDesk_19 _ _ _ _ _ hV
  · have hV := hV.2 c
    refine s_iconst d_X11_layDesk_14 (okn rfl) ?_
    refine s_goto (tgt := 19) d_X11_layDesk_15 (by decide) ?_
    exact GJ_X11_layDesk_19 _ _ _ _ _ hV

theorem d_X11_fault_0 : decode i_X11_fault.2.1 0 = .ok (.aload_n 0, 1) := by decide +kernel
theorem d_X11_fault_1 : decode i_X11_fault.2.1 1 = .ok (.getfield 10, 3) := by decide +kernel
theorem d_X11_fault_4 : decode i_X11_fault.2.1 4 = .ok (.getfield 124, 3) := by decide +kernel
theorem d_X11_fault_7 : decode i_X11_fault.2.1 7 = .ok (.ireturn, 1) := by decide +kernel
def V_X11_fault (x0 : Nat) (h : Hp) (Q : Int → Hp → Prop) : Prop :=
  hK h x0 = 10 ∧ (hK h (hR h x0 0) = 1 ∧ (Q (hI h (hR h x0 0) 5) h))
theorem G_X11_fault {x0 : Nat} (h : Hp) (Q : Int → Hp → Prop) (hV : V_X11_fault x0 h Q) : C_X11_fault x0 h Q := by
  unfold V_X11_fault at hV
  show Go i_X11_fault 0 [(0, .inr (.inr x0))] [] h (qI Q)
  refine s_aload_n d_X11_fault_0 rfl (ma 0 rfl) ?_
  obtain ⟨o, hV⟩ := hV
  refine f_RX11_10g rfl d_X11_fault_1 o ?_
  obtain ⟨o, hV⟩ := hV
  refine f_RX11_124g rfl d_X11_fault_4 o ?_
  exact s_iret d_X11_fault_7 rfl rfl ⟨_, rfl, hV⟩

theorem d_X11_told_0 : decode i_X11_told.2.1 0 = .ok (.iload_n 1, 1) := by decide +kernel
theorem d_X11_told_1 : decode i_X11_told.2.1 1 = .ok (.tableswitch 220 0 13 #[71, 84, 95, 103, 111, 119, 127, 138, 149, 170, 181, 196, 204, 212], 71) := by decide +kernel
theorem d_X11_told_72 : decode i_X11_told.2.1 72 = .ok (.aload_n 0, 1) := by decide +kernel
theorem d_X11_told_73 : decode i_X11_told.2.1 73 = .ok (.getfield 105, 3) := by decide +kernel
theorem d_X11_told_76 : decode i_X11_told.2.1 76 = .ok (.ifCond .eq 7, 3) := by decide +kernel
theorem d_X11_told_79 : decode i_X11_told.2.1 79 = .ok (.iconst 1, 1) := by decide +kernel
theorem d_X11_told_80 : decode i_X11_told.2.1 80 = .ok (.goto 4, 3) := by decide +kernel
theorem d_X11_told_83 : decode i_X11_told.2.1 83 = .ok (.iconst 0, 1) := by decide +kernel
theorem d_X11_told_84 : decode i_X11_told.2.1 84 = .ok (.ireturn, 1) := by decide +kernel
theorem d_X11_told_85 : decode i_X11_told.2.1 85 = .ok (.aload_n 0, 1) := by decide +kernel
theorem d_X11_told_86 : decode i_X11_told.2.1 86 = .ok (.getfield 26, 3) := by decide +kernel
theorem d_X11_told_89 : decode i_X11_told.2.1 89 = .ok (.getfield 100, 3) := by decide +kernel
theorem d_X11_told_92 : decode i_X11_told.2.1 92 = .ok (.getfield 103, 3) := by decide +kernel
theorem d_X11_told_95 : decode i_X11_told.2.1 95 = .ok (.ireturn, 1) := by decide +kernel
theorem d_X11_told_96 : decode i_X11_told.2.1 96 = .ok (.aload_n 0, 1) := by decide +kernel
theorem d_X11_told_97 : decode i_X11_told.2.1 97 = .ok (.getfield 19, 3) := by decide +kernel
theorem d_X11_told_100 : decode i_X11_told.2.1 100 = .ok (.getfield 127, 3) := by decide +kernel
theorem d_X11_told_103 : decode i_X11_told.2.1 103 = .ok (.ireturn, 1) := by decide +kernel
theorem d_X11_told_104 : decode i_X11_told.2.1 104 = .ok (.aload_n 0, 1) := by decide +kernel
theorem d_X11_told_105 : decode i_X11_told.2.1 105 = .ok (.getfield 10, 3) := by decide +kernel
theorem d_X11_told_108 : decode i_X11_told.2.1 108 = .ok (.getfield 86, 3) := by decide +kernel
theorem d_X11_told_111 : decode i_X11_told.2.1 111 = .ok (.ireturn, 1) := by decide +kernel
theorem d_X11_told_112 : decode i_X11_told.2.1 112 = .ok (.aload_n 0, 1) := by decide +kernel
theorem d_X11_told_113 : decode i_X11_told.2.1 113 = .ok (.getfield 26, 3) := by decide +kernel
theorem d_X11_told_116 : decode i_X11_told.2.1 116 = .ok (.getfield 128, 3) := by decide +kernel
theorem d_X11_told_119 : decode i_X11_told.2.1 119 = .ok (.ireturn, 1) := by decide +kernel
theorem d_X11_told_120 : decode i_X11_told.2.1 120 = .ok (.aload_n 0, 1) := by decide +kernel
theorem d_X11_told_121 : decode i_X11_told.2.1 121 = .ok (.getfield 26, 3) := by decide +kernel
theorem d_X11_told_124 : decode i_X11_told.2.1 124 = .ok (.getfield 131, 3) := by decide +kernel
theorem d_X11_told_127 : decode i_X11_told.2.1 127 = .ok (.ireturn, 1) := by decide +kernel
theorem d_X11_told_128 : decode i_X11_told.2.1 128 = .ok (.aload_n 0, 1) := by decide +kernel
theorem d_X11_told_129 : decode i_X11_told.2.1 129 = .ok (.getfield 26, 3) := by decide +kernel
theorem d_X11_told_132 : decode i_X11_told.2.1 132 = .ok (.getfield 100, 3) := by decide +kernel
theorem d_X11_told_135 : decode i_X11_told.2.1 135 = .ok (.invokevirtual 134, 3) := by decide +kernel
theorem d_X11_told_138 : decode i_X11_told.2.1 138 = .ok (.ireturn, 1) := by decide +kernel
theorem d_X11_told_139 : decode i_X11_told.2.1 139 = .ok (.aload_n 0, 1) := by decide +kernel
theorem d_X11_told_140 : decode i_X11_told.2.1 140 = .ok (.getfield 26, 3) := by decide +kernel
theorem d_X11_told_143 : decode i_X11_told.2.1 143 = .ok (.getfield 100, 3) := by decide +kernel
theorem d_X11_told_146 : decode i_X11_told.2.1 146 = .ok (.invokevirtual 138, 3) := by decide +kernel
theorem d_X11_told_149 : decode i_X11_told.2.1 149 = .ok (.ireturn, 1) := by decide +kernel
theorem d_X11_told_150 : decode i_X11_told.2.1 150 = .ok (.aload_n 0, 1) := by decide +kernel
theorem d_X11_told_151 : decode i_X11_told.2.1 151 = .ok (.getfield 26, 3) := by decide +kernel
theorem d_X11_told_154 : decode i_X11_told.2.1 154 = .ok (.getfield 100, 3) := by decide +kernel
theorem d_X11_told_157 : decode i_X11_told.2.1 157 = .ok (.aload_n 0, 1) := by decide +kernel
theorem d_X11_told_158 : decode i_X11_told.2.1 158 = .ok (.getfield 26, 3) := by decide +kernel
theorem d_X11_told_161 : decode i_X11_told.2.1 161 = .ok (.getfield 100, 3) := by decide +kernel
theorem d_X11_told_164 : decode i_X11_told.2.1 164 = .ok (.invokevirtual 141, 3) := by decide +kernel
theorem d_X11_told_167 : decode i_X11_told.2.1 167 = .ok (.invokevirtual 144, 3) := by decide +kernel
theorem d_X11_told_170 : decode i_X11_told.2.1 170 = .ok (.ireturn, 1) := by decide +kernel
theorem d_X11_told_171 : decode i_X11_told.2.1 171 = .ok (.aload_n 0, 1) := by decide +kernel
theorem d_X11_told_172 : decode i_X11_told.2.1 172 = .ok (.getfield 26, 3) := by decide +kernel
theorem d_X11_told_175 : decode i_X11_told.2.1 175 = .ok (.getfield 100, 3) := by decide +kernel
theorem d_X11_told_178 : decode i_X11_told.2.1 178 = .ok (.invokevirtual 148, 3) := by decide +kernel
theorem d_X11_told_181 : decode i_X11_told.2.1 181 = .ok (.ireturn, 1) := by decide +kernel
theorem d_X11_told_182 : decode i_X11_told.2.1 182 = .ok (.aload_n 0, 1) := by decide +kernel
theorem d_X11_told_183 : decode i_X11_told.2.1 183 = .ok (.getfield 19, 3) := by decide +kernel
theorem d_X11_told_186 : decode i_X11_told.2.1 186 = .ok (.aload_n 0, 1) := by decide +kernel
theorem d_X11_told_187 : decode i_X11_told.2.1 187 = .ok (.getfield 26, 3) := by decide +kernel
theorem d_X11_told_190 : decode i_X11_told.2.1 190 = .ok (.getfield 100, 3) := by decide +kernel
theorem d_X11_told_193 : decode i_X11_told.2.1 193 = .ok (.invokevirtual 151, 3) := by decide +kernel
theorem d_X11_told_196 : decode i_X11_told.2.1 196 = .ok (.ireturn, 1) := by decide +kernel
theorem d_X11_told_197 : decode i_X11_told.2.1 197 = .ok (.aload_n 0, 1) := by decide +kernel
theorem d_X11_told_198 : decode i_X11_told.2.1 198 = .ok (.getfield 47, 3) := by decide +kernel
theorem d_X11_told_201 : decode i_X11_told.2.1 201 = .ok (.getfield 118, 3) := by decide +kernel
theorem d_X11_told_204 : decode i_X11_told.2.1 204 = .ok (.ireturn, 1) := by decide +kernel
theorem d_X11_told_205 : decode i_X11_told.2.1 205 = .ok (.aload_n 0, 1) := by decide +kernel
theorem d_X11_told_206 : decode i_X11_told.2.1 206 = .ok (.getfield 54, 3) := by decide +kernel
theorem d_X11_told_209 : decode i_X11_told.2.1 209 = .ok (.getfield 119, 3) := by decide +kernel
theorem d_X11_told_212 : decode i_X11_told.2.1 212 = .ok (.ireturn, 1) := by decide +kernel
theorem d_X11_told_213 : decode i_X11_told.2.1 213 = .ok (.aload_n 0, 1) := by decide +kernel
theorem d_X11_told_214 : decode i_X11_told.2.1 214 = .ok (.getfield 33, 3) := by decide +kernel
theorem d_X11_told_217 : decode i_X11_told.2.1 217 = .ok (.getfield 155, 3) := by decide +kernel
theorem d_X11_told_220 : decode i_X11_told.2.1 220 = .ok (.ireturn, 1) := by decide +kernel
theorem d_X11_told_221 : decode i_X11_told.2.1 221 = .ok (.ldc 81, 2) := by decide +kernel
theorem d_X11_told_223 : decode i_X11_told.2.1 223 = .ok (.ireturn, 1) := by decide +kernel
def V_X11_told (x0 : Nat) (x1 : Int) (h : Hp) (Q : Int → Hp → Prop) : Prop :=
  ((x1 < 0 ∨ 13 < x1) → (Q (-1000000002) h)) ∧ (x1 = 0 → (hK h x0 = 10 ∧ ((hI h x0 10 = 0 → (Q 0 h)) ∧ (¬ hI h x0 10 = 0 → (Q 1 h))))) ∧ (x1 = 1 → (hK h x0 = 10 ∧ (hK h (hR h x0 2) = 7 ∧ (hK h (hR h (hR h x0 2) 0) = 2 ∧ (Q (hI h (hR h (hR h x0 2) 0) 1) h))))) ∧ (x1 = 2 → (hK h x0 = 10 ∧ (hK h (hR h x0 1) = 9 ∧ (Q (hI h (hR h x0 1) 3) h)))) ∧ (x1 = 3 → (hK h x0 = 10 ∧ (hK h (hR h x0 0) = 1 ∧ (Q (hI h (hR h x0 0) 3) h)))) ∧ (x1 = 4 → (hK h x0 = 10 ∧ (hK h (hR h x0 2) = 7 ∧ (Q (hI h (hR h x0 2) 4) h)))) ∧ (x1 = 5 → (hK h x0 = 10 ∧ (hK h (hR h x0 2) = 7 ∧ (Q (hI h (hR h x0 2) 3) h)))) ∧ (x1 = 6 → (hK h x0 = 10 ∧ (hK h (hR h x0 2) = 7 ∧ (hK h (hR h (hR h x0 2) 0) = 2 ∧ C_X2_runs (hR h (hR h x0 2) 0)  h (fun r2 h1 => (Q r2 h1)))))) ∧ (x1 = 7 → (hK h x0 = 10 ∧ (hK h (hR h x0 2) = 7 ∧ (hK h (hR h (hR h x0 2) 0) = 2 ∧ C_X2_longestRun (hR h (hR h x0 2) 0)  h (fun r4 h3 => (Q r4 h3)))))) ∧ (x1 = 8 → (hK h x0 = 10 ∧ (hK h (hR h x0 2) = 7 ∧ (hK h x0 = 10 ∧ (hK h (hR h x0 2) = 7 ∧ (hK h (hR h (hR h x0 2) 0) = 2 ∧ C_X2_longestRunStart (hR h (hR h x0 2) 0)  h (fun r6 h5 => (hK h5 (hR h (hR h x0 2) 0) = 2 ∧ C_X2_get (hR h (hR h x0 2) 0) r6 h5 (fun r8 h7 => (Q r8 h7)))))))))) ∧ (x1 = 9 → (hK h x0 = 10 ∧ (hK h (hR h x0 2) = 7 ∧ (hK h (hR h (hR h x0 2) 0) = 2 ∧ C_X2_unlike (hR h (hR h x0 2) 0)  h (fun r10 h9 => (Q r10 h9)))))) ∧ (x1 = 10 → (hK h x0 = 10 ∧ (hK h x0 = 10 ∧ (hK h (hR h x0 2) = 7 ∧ (hK h (hR h x0 1) = 9 ∧ C_X10_waysToTell (hR h x0 1) (hR h (hR h x0 2) 0) h (fun r12 h11 => (Q r12 h11))))))) ∧ (x1 = 11 → (hK h x0 = 10 ∧ (hK h (hR h x0 5) = 3 ∧ (Q (hI h (hR h x0 5) 4) h)))) ∧ (x1 = 12 → (hK h x0 = 10 ∧ (hK h (hR h x0 6) = 0 ∧ (Q (hI h (hR h x0 6) 2) h)))) ∧ (x1 = 13 → (hK h x0 = 10 ∧ (hK h (hR h x0 3) = 6 ∧ (Q (hI h (hR h x0 3) 2) h))))
theorem G_X11_told {x0 : Nat} {x1 : Int} (h : Hp) (Q : Int → Hp → Prop) (hV : V_X11_told x0 x1 h Q) : C_X11_told x0 x1 h Q := by
  unfold V_X11_told at hV
  show Go i_X11_told 0 [(0, .inr (.inr x0)), (1, .inl x1)] [] h (qI Q)
  refine s_iload_n d_X11_told_0 rfl (ma 1 rfl) ?_
  by_cases c : x1 < 0 ∨ 13 < x1
  · have hV := hV.1 c
    refine s_tswOut (tgt := 221) d_X11_told_1 c (by decide) ?_
    refine s_ldc (n := (-1000000002)) d_X11_told_221 k_RX11_81 (by decide) (okn rfl) ?_
    exact s_iret d_X11_told_223 rfl rfl ⟨_, rfl, hV⟩
  · have hV := hV.2
    have w1 : ¬ x1 < 0 := fun z => c (Or.inl z)
    have w2 : ¬ 13 < x1 := fun z => c (Or.inr z)
    have g0 : (0 : Int) ≤ x1 := Int.not_lt.mp w1
    by_cases c0 : x1 = 0
    · have hV := hV.1 c0
      refine s_tswIn (tgt := 72) d_X11_told_1 w1 w2 (by rw [c0]; try rfl) (by decide) ?_
      refine s_aload_n d_X11_told_72 rfl (ma 0 rfl) ?_
      obtain ⟨o, hV⟩ := hV
      refine f_RX11_105g rfl d_X11_told_73 o ?_
      refine s_if_eq (tgt := 83) d_X11_told_76 (by decide) (fun c => ?_) (fun c => ?_)
      · have hV := hV.1 c
        refine s_iconst d_X11_told_83 (okn rfl) ?_
        exact s_iret d_X11_told_84 rfl rfl ⟨_, rfl, hV⟩
      · have hV := hV.2 c
        refine s_iconst d_X11_told_79 (okn rfl) ?_
        refine s_goto (tgt := 84) d_X11_told_80 (by decide) ?_
        exact s_iret d_X11_told_84 rfl rfl ⟨_, rfl, hV⟩
    have hV := hV.2
    have g1 : (1 : Int) ≤ x1 := Int.lt_iff_le_and_ne.mpr ⟨g0, fun z => c0 z.symm⟩
    clear c0 g0
    by_cases c1 : x1 = 1
    · have hV := hV.1 c1
      refine s_tswIn (tgt := 85) d_X11_told_1 w1 w2 (by rw [c1]; try rfl) (by decide) ?_
      refine s_aload_n d_X11_told_85 rfl (ma 0 rfl) ?_
      obtain ⟨o, hV⟩ := hV
      refine f_RX11_26g rfl d_X11_told_86 o ?_
      obtain ⟨o, hV⟩ := hV
      refine f_RX11_100g rfl d_X11_told_89 o ?_
      obtain ⟨o, hV⟩ := hV
      refine f_RX11_103g rfl d_X11_told_92 o ?_
      exact s_iret d_X11_told_95 rfl rfl ⟨_, rfl, hV⟩
    have hV := hV.2
    have g2 : (2 : Int) ≤ x1 := Int.lt_iff_le_and_ne.mpr ⟨g1, fun z => c1 z.symm⟩
    clear c1 g1
    by_cases c2 : x1 = 2
    · have hV := hV.1 c2
      refine s_tswIn (tgt := 96) d_X11_told_1 w1 w2 (by rw [c2]; try rfl) (by decide) ?_
      refine s_aload_n d_X11_told_96 rfl (ma 0 rfl) ?_
      obtain ⟨o, hV⟩ := hV
      refine f_RX11_19g rfl d_X11_told_97 o ?_
      obtain ⟨o, hV⟩ := hV
      refine f_RX11_127g rfl d_X11_told_100 o ?_
      exact s_iret d_X11_told_103 rfl rfl ⟨_, rfl, hV⟩
    have hV := hV.2
    have g3 : (3 : Int) ≤ x1 := Int.lt_iff_le_and_ne.mpr ⟨g2, fun z => c2 z.symm⟩
    clear c2 g2
    by_cases c3 : x1 = 3
    · have hV := hV.1 c3
      refine s_tswIn (tgt := 104) d_X11_told_1 w1 w2 (by rw [c3]; try rfl) (by decide) ?_
      refine s_aload_n d_X11_told_104 rfl (ma 0 rfl) ?_
      obtain ⟨o, hV⟩ := hV
      refine f_RX11_10g rfl d_X11_told_105 o ?_
      obtain ⟨o, hV⟩ := hV
      refine f_RX11_86g rfl d_X11_told_108 o ?_
      exact s_iret d_X11_told_111 rfl rfl ⟨_, rfl, hV⟩
    have hV := hV.2
    have g4 : (4 : Int) ≤ x1 := Int.lt_iff_le_and_ne.mpr ⟨g3, fun z => c3 z.symm⟩
    clear c3 g3
    by_cases c4 : x1 = 4
    · have hV := hV.1 c4
      refine s_tswIn (tgt := 112) d_X11_told_1 w1 w2 (by rw [c4]; try rfl) (by decide) ?_
      refine s_aload_n d_X11_told_112 rfl (ma 0 rfl) ?_
      obtain ⟨o, hV⟩ := hV
      refine f_RX11_26g rfl d_X11_told_113 o ?_
      obtain ⟨o, hV⟩ := hV
      refine f_RX11_128g rfl d_X11_told_116 o ?_
      exact s_iret d_X11_told_119 rfl rfl ⟨_, rfl, hV⟩
    have hV := hV.2
    have g5 : (5 : Int) ≤ x1 := Int.lt_iff_le_and_ne.mpr ⟨g4, fun z => c4 z.symm⟩
    clear c4 g4
    by_cases c5 : x1 = 5
    · have hV := hV.1 c5
      refine s_tswIn (tgt := 120) d_X11_told_1 w1 w2 (by rw [c5]; try rfl) (by decide) ?_
      refine s_aload_n d_X11_told_120 rfl (ma 0 rfl) ?_
      obtain ⟨o, hV⟩ := hV
      refine f_RX11_26g rfl d_X11_told_121 o ?_
      obtain ⟨o, hV⟩ := hV
      refine f_RX11_131g rfl d_X11_told_124 o ?_
      exact s_iret d_X11_told_127 rfl rfl ⟨_, rfl, hV⟩
    have hV := hV.2
    have g6 : (6 : Int) ≤ x1 := Int.lt_iff_le_and_ne.mpr ⟨g5, fun z => c5 z.symm⟩
    clear c5 g5
    by_cases c6 : x1 = 6
    · have hV := hV.1 c6
      refine s_tswIn (tgt := 128) d_X11_told_1 w1 w2 (by rw [c6]; try rfl) (by decide) ?_
      refine s_aload_n d_X11_told_128 rfl (ma 0 rfl) ?_
      obtain ⟨o, hV⟩ := hV
      refine f_RX11_26g rfl d_X11_told_129 o ?_
      obtain ⟨o, hV⟩ := hV
      refine f_RX11_100g rfl d_X11_told_132 o ?_
      obtain ⟨o, hV⟩ := hV
      refine v_RX11_134 rfl (Nat.le_of_ble_eq_true rfl) d_X11_told_135 o (Nat.le_of_ble_eq_true rfl) hV (fun r2 h1 hV => ?_)
      exact s_iret d_X11_told_138 rfl rfl ⟨_, rfl, hV⟩
    have hV := hV.2
    have g7 : (7 : Int) ≤ x1 := Int.lt_iff_le_and_ne.mpr ⟨g6, fun z => c6 z.symm⟩
    clear c6 g6
    by_cases c7 : x1 = 7
    · have hV := hV.1 c7
      refine s_tswIn (tgt := 139) d_X11_told_1 w1 w2 (by rw [c7]; try rfl) (by decide) ?_
      refine s_aload_n d_X11_told_139 rfl (ma 0 rfl) ?_
      obtain ⟨o, hV⟩ := hV
      refine f_RX11_26g rfl d_X11_told_140 o ?_
      obtain ⟨o, hV⟩ := hV
      refine f_RX11_100g rfl d_X11_told_143 o ?_
      obtain ⟨o, hV⟩ := hV
      refine v_RX11_138 rfl (Nat.le_of_ble_eq_true rfl) d_X11_told_146 o (Nat.le_of_ble_eq_true rfl) hV (fun r4 h3 hV => ?_)
      exact s_iret d_X11_told_149 rfl rfl ⟨_, rfl, hV⟩
    have hV := hV.2
    have g8 : (8 : Int) ≤ x1 := Int.lt_iff_le_and_ne.mpr ⟨g7, fun z => c7 z.symm⟩
    clear c7 g7
    by_cases c8 : x1 = 8
    · have hV := hV.1 c8
      refine s_tswIn (tgt := 150) d_X11_told_1 w1 w2 (by rw [c8]; try rfl) (by decide) ?_
      refine s_aload_n d_X11_told_150 rfl (ma 0 rfl) ?_
      obtain ⟨o, hV⟩ := hV
      refine f_RX11_26g rfl d_X11_told_151 o ?_
      obtain ⟨o, hV⟩ := hV
      refine f_RX11_100g rfl d_X11_told_154 o ?_
      refine s_aload_n d_X11_told_157 rfl (ma 0 rfl) ?_
      obtain ⟨o, hV⟩ := hV
      refine f_RX11_26g rfl d_X11_told_158 o ?_
      obtain ⟨o, hV⟩ := hV
      refine f_RX11_100g rfl d_X11_told_161 o ?_
      obtain ⟨o, hV⟩ := hV
      refine v_RX11_141 rfl (Nat.le_of_ble_eq_true rfl) d_X11_told_164 o (Nat.le_of_ble_eq_true rfl) hV (fun r6 h5 hV => ?_)
      obtain ⟨o, hV⟩ := hV
      refine v_RX11_144 rfl (Nat.le_of_ble_eq_true rfl) d_X11_told_167 o (Nat.le_of_ble_eq_true rfl) hV (fun r8 h7 hV => ?_)
      exact s_iret d_X11_told_170 rfl rfl ⟨_, rfl, hV⟩
    have hV := hV.2
    have g9 : (9 : Int) ≤ x1 := Int.lt_iff_le_and_ne.mpr ⟨g8, fun z => c8 z.symm⟩
    clear c8 g8
    by_cases c9 : x1 = 9
    · have hV := hV.1 c9
      refine s_tswIn (tgt := 171) d_X11_told_1 w1 w2 (by rw [c9]; try rfl) (by decide) ?_
      refine s_aload_n d_X11_told_171 rfl (ma 0 rfl) ?_
      obtain ⟨o, hV⟩ := hV
      refine f_RX11_26g rfl d_X11_told_172 o ?_
      obtain ⟨o, hV⟩ := hV
      refine f_RX11_100g rfl d_X11_told_175 o ?_
      obtain ⟨o, hV⟩ := hV
      refine v_RX11_148 rfl (Nat.le_of_ble_eq_true rfl) d_X11_told_178 o (Nat.le_of_ble_eq_true rfl) hV (fun r10 h9 hV => ?_)
      exact s_iret d_X11_told_181 rfl rfl ⟨_, rfl, hV⟩
    have hV := hV.2
    have g10 : (10 : Int) ≤ x1 := Int.lt_iff_le_and_ne.mpr ⟨g9, fun z => c9 z.symm⟩
    clear c9 g9
    by_cases c10 : x1 = 10
    · have hV := hV.1 c10
      refine s_tswIn (tgt := 182) d_X11_told_1 w1 w2 (by rw [c10]; try rfl) (by decide) ?_
      refine s_aload_n d_X11_told_182 rfl (ma 0 rfl) ?_
      obtain ⟨o, hV⟩ := hV
      refine f_RX11_19g rfl d_X11_told_183 o ?_
      refine s_aload_n d_X11_told_186 rfl (ma 0 rfl) ?_
      obtain ⟨o, hV⟩ := hV
      refine f_RX11_26g rfl d_X11_told_187 o ?_
      obtain ⟨o, hV⟩ := hV
      refine f_RX11_100g rfl d_X11_told_190 o ?_
      obtain ⟨o, hV⟩ := hV
      refine v_RX11_151 rfl (Nat.le_of_ble_eq_true rfl) d_X11_told_193 o (Nat.le_of_ble_eq_true rfl) hV (fun r12 h11 hV => ?_)
      exact s_iret d_X11_told_196 rfl rfl ⟨_, rfl, hV⟩
    have hV := hV.2
    have g11 : (11 : Int) ≤ x1 := Int.lt_iff_le_and_ne.mpr ⟨g10, fun z => c10 z.symm⟩
    clear c10 g10
    by_cases c11 : x1 = 11
    · have hV := hV.1 c11
      refine s_tswIn (tgt := 197) d_X11_told_1 w1 w2 (by rw [c11]; try rfl) (by decide) ?_
      refine s_aload_n d_X11_told_197 rfl (ma 0 rfl) ?_
      obtain ⟨o, hV⟩ := hV
      refine f_RX11_47g rfl d_X11_told_198 o ?_
      obtain ⟨o, hV⟩ := hV
      refine f_RX11_118g rfl d_X11_told_201 o ?_
      exact s_iret d_X11_told_204 rfl rfl ⟨_, rfl, hV⟩
    have hV := hV.2
    have g12 : (12 : Int) ≤ x1 := Int.lt_iff_le_and_ne.mpr ⟨g11, fun z => c11 z.symm⟩
    clear c11 g11
    by_cases c12 : x1 = 12
    · have hV := hV.1 c12
      refine s_tswIn (tgt := 205) d_X11_told_1 w1 w2 (by rw [c12]; try rfl) (by decide) ?_
      refine s_aload_n d_X11_told_205 rfl (ma 0 rfl) ?_
      obtain ⟨o, hV⟩ := hV
      refine f_RX11_54g rfl d_X11_told_206 o ?_
      obtain ⟨o, hV⟩ := hV
      refine f_RX11_119g rfl d_X11_told_209 o ?_
      exact s_iret d_X11_told_212 rfl rfl ⟨_, rfl, hV⟩
    have hV := hV.2
    have g13 : (13 : Int) ≤ x1 := Int.lt_iff_le_and_ne.mpr ⟨g12, fun z => c12 z.symm⟩
    clear c12 g12
    have c13 : x1 = 13 := Int.le_antisymm (Int.not_lt.mp w2) g13
    have hV := hV c13
    refine s_tswIn (tgt := 213) d_X11_told_1 w1 w2 (by rw [c13]; try rfl) (by decide) ?_
    refine s_aload_n d_X11_told_213 rfl (ma 0 rfl) ?_
    obtain ⟨o, hV⟩ := hV
    refine f_RX11_33g rfl d_X11_told_214 o ?_
    obtain ⟨o, hV⟩ := hV
    refine f_RX11_155g rfl d_X11_told_217 o ?_
    exact s_iret d_X11_told_220 rfl rfl ⟨_, rfl, hV⟩

theorem d_X11_at_0 : decode i_X11_at.2.1 0 = .ok (.iload_n 1, 1) := by decide +kernel
theorem d_X11_at_1 : decode i_X11_at.2.1 1 = .ok (.invokestatic 156, 3) := by decide +kernel
theorem d_X11_at_4 : decode i_X11_at.2.1 4 = .ok (.ifCond .eq 17, 3) := by decide +kernel
theorem d_X11_at_7 : decode i_X11_at.2.1 7 = .ok (.aload_n 0, 1) := by decide +kernel
theorem d_X11_at_8 : decode i_X11_at.2.1 8 = .ok (.getfield 26, 3) := by decide +kernel
theorem d_X11_at_11 : decode i_X11_at.2.1 11 = .ok (.getfield 100, 3) := by decide +kernel
theorem d_X11_at_14 : decode i_X11_at.2.1 14 = .ok (.iload_n 1, 1) := by decide +kernel
theorem d_X11_at_15 : decode i_X11_at.2.1 15 = .ok (.invokevirtual 144, 3) := by decide +kernel
theorem d_X11_at_18 : decode i_X11_at.2.1 18 = .ok (.goto 5, 3) := by decide +kernel
theorem d_X11_at_21 : decode i_X11_at.2.1 21 = .ok (.ldc 81, 2) := by decide +kernel
theorem d_X11_at_23 : decode i_X11_at.2.1 23 = .ok (.ireturn, 1) := by decide +kernel
def V_X11_at (x0 : Nat) (x1 : Int) (h : Hp) (Q : Int → Hp → Prop) : Prop :=
  C_X11_isPlace x1 h (fun r2 h1 => ((r2 = 0 → (Q (-1000000002) h1)) ∧ (¬ r2 = 0 → (hK h1 x0 = 10 ∧ (hK h1 (hR h1 x0 2) = 7 ∧ (hK h1 (hR h1 (hR h1 x0 2) 0) = 2 ∧ C_X2_get (hR h1 (hR h1 x0 2) 0) x1 h1 (fun r4 h3 => (Q r4 h3))))))))
theorem G_X11_at {x0 : Nat} {x1 : Int} (h : Hp) (Q : Int → Hp → Prop) (hV : V_X11_at x0 x1 h Q) : C_X11_at x0 x1 h Q := by
  unfold V_X11_at at hV
  show Go i_X11_at 0 [(0, .inr (.inr x0)), (1, .inl x1)] [] h (qI Q)
  refine s_iload_n d_X11_at_0 rfl (ma 1 rfl) ?_
  refine v_RX11_156 rfl (Nat.le_of_ble_eq_true rfl) d_X11_at_1 (Nat.le_of_ble_eq_true rfl) hV (fun r2 h1 hV => ?_)
  refine s_if_eq (tgt := 21) d_X11_at_4 (by decide) (fun c => ?_) (fun c => ?_)
  · have hV := hV.1 c
    refine s_ldc (n := (-1000000002)) d_X11_at_21 k_RX11_81 (by decide) (okn rfl) ?_
    exact s_iret d_X11_at_23 rfl rfl ⟨_, rfl, hV⟩
  · have hV := hV.2 c
    refine s_aload_n d_X11_at_7 rfl (ma 0 rfl) ?_
    obtain ⟨o, hV⟩ := hV
    refine f_RX11_26g rfl d_X11_at_8 o ?_
    obtain ⟨o, hV⟩ := hV
    refine f_RX11_100g rfl d_X11_at_11 o ?_
    refine s_iload_n d_X11_at_14 rfl (ma 1 rfl) ?_
    obtain ⟨o, hV⟩ := hV
    refine v_RX11_144 rfl (Nat.le_of_ble_eq_true rfl) d_X11_at_15 o (Nat.le_of_ble_eq_true rfl) hV (fun r4 h3 hV => ?_)
    refine s_goto (tgt := 23) d_X11_at_18 (by decide) ?_
    exact s_iret d_X11_at_23 rfl rfl ⟨_, rfl, hV⟩

theorem d_X11_spelt_0 : decode i_X11_spelt.2.1 0 = .ok (.aload_n 0, 1) := by decide +kernel
theorem d_X11_spelt_1 : decode i_X11_spelt.2.1 1 = .ok (.getfield 19, 3) := by decide +kernel
theorem d_X11_spelt_4 : decode i_X11_spelt.2.1 4 = .ok (.iload_n 1, 1) := by decide +kernel
theorem d_X11_spelt_5 : decode i_X11_spelt.2.1 5 = .ok (.invokevirtual 159, 3) := by decide +kernel
theorem d_X11_spelt_8 : decode i_X11_spelt.2.1 8 = .ok (.astore_n 3, 1) := by decide +kernel
theorem d_X11_spelt_9 : decode i_X11_spelt.2.1 9 = .ok (.aload_n 3, 1) := by decide +kernel
theorem d_X11_spelt_10 : decode i_X11_spelt.2.1 10 = .ok (.ifnonnull 6, 3) := by decide +kernel
theorem d_X11_spelt_13 : decode i_X11_spelt.2.1 13 = .ok (.ldc 162, 2) := by decide +kernel
theorem d_X11_spelt_15 : decode i_X11_spelt.2.1 15 = .ok (.ireturn, 1) := by decide +kernel
theorem d_X11_spelt_16 : decode i_X11_spelt.2.1 16 = .ok (.iload_n 2, 1) := by decide +kernel
theorem d_X11_spelt_17 : decode i_X11_spelt.2.1 17 = .ok (.ifCond .lt 9, 3) := by decide +kernel
theorem d_X11_spelt_20 : decode i_X11_spelt.2.1 20 = .ok (.iload_n 2, 1) := by decide +kernel
theorem d_X11_spelt_21 : decode i_X11_spelt.2.1 21 = .ok (.bipush 8, 2) := by decide +kernel
theorem d_X11_spelt_23 : decode i_X11_spelt.2.1 23 = .ok (.if_icmp .lt 8, 3) := by decide +kernel
theorem d_X11_spelt_26 : decode i_X11_spelt.2.1 26 = .ok (.ldc 81, 2) := by decide +kernel
theorem d_X11_spelt_28 : decode i_X11_spelt.2.1 28 = .ok (.goto 8, 3) := by decide +kernel
theorem d_X11_spelt_31 : decode i_X11_spelt.2.1 31 = .ok (.aload_n 3, 1) := by decide +kernel
theorem d_X11_spelt_32 : decode i_X11_spelt.2.1 32 = .ok (.iload_n 2, 1) := by decide +kernel
theorem d_X11_spelt_33 : decode i_X11_spelt.2.1 33 = .ok (.invokevirtual 144, 3) := by decide +kernel
theorem d_X11_spelt_36 : decode i_X11_spelt.2.1 36 = .ok (.ireturn, 1) := by decide +kernel
def V_X11_spelt (x0 : Nat) (x1 : Int) (x2 : Int) (h : Hp) (Q : Int → Hp → Prop) : Prop :=
  hK h x0 = 10 ∧ (hK h (hR h x0 1) = 9 ∧ C_X10_get (hR h x0 1) x1 h (fun r2 h1 => ((r2 ≠ 0 → ((x2 < 0 → (Q (-1000000002) h1)) ∧ (¬ x2 < 0 → ((x2 < 8 → (hK h1 r2 = 2 ∧ C_X2_get r2 x2 h1 (fun r4 h3 => (Q r4 h3)))) ∧ (¬ x2 < 8 → (Q (-1000000002) h1)))))) ∧ (¬ r2 ≠ 0 → (Q (-1000000001) h1)))))
theorem G_X11_spelt {x0 : Nat} {x1 : Int} {x2 : Int} (h : Hp) (Q : Int → Hp → Prop) (hV : V_X11_spelt x0 x1 x2 h Q) : C_X11_spelt x0 x1 x2 h Q := by
  unfold V_X11_spelt at hV
  show Go i_X11_spelt 0 [(0, .inr (.inr x0)), (1, .inl x1), (2, .inl x2)] [] h (qI Q)
  refine s_aload_n d_X11_spelt_0 rfl (ma 0 rfl) ?_
  obtain ⟨o, hV⟩ := hV
  refine f_RX11_19g rfl d_X11_spelt_1 o ?_
  refine s_iload_n d_X11_spelt_4 rfl (ma 1 rfl) ?_
  obtain ⟨o, hV⟩ := hV
  refine v_RX11_159 rfl (Nat.le_of_ble_eq_true rfl) d_X11_spelt_5 o (Nat.le_of_ble_eq_true rfl) hV (fun r2 h1 hV => ?_)
  refine s_astore_n (lv' := [(3, .inr (.inr r2)), (0, .inr (.inr x0)), (1, .inl x1), (2, .inl x2)]) d_X11_spelt_8 rfl (Nat.le_of_ble_eq_true rfl) rfl ?_
  refine s_aload_n d_X11_spelt_9 rfl (ma 0 rfl) ?_
  refine s_ifnonnull (tgt := 16) d_X11_spelt_10 (by decide) (fun c => ?_) (fun c => ?_)
  · have hV := hV.1 c
    refine s_iload_n d_X11_spelt_16 rfl (ma 3 rfl) ?_
    refine s_if_lt (tgt := 26) d_X11_spelt_17 (by decide) (fun c => ?_) (fun c => ?_)
    · have hV := hV.1 c
      refine s_ldc (n := (-1000000002)) d_X11_spelt_26 k_RX11_81 (by decide) (okn rfl) ?_
      refine s_goto (tgt := 36) d_X11_spelt_28 (by decide) ?_
      exact s_iret d_X11_spelt_36 rfl rfl ⟨_, rfl, hV⟩
    · have hV := hV.2 c
      refine s_iload_n d_X11_spelt_20 rfl (ma 3 rfl) ?_
      refine s_bipush d_X11_spelt_21 (by decide) (okn rfl) ?_
      refine s_icmp_lt (tgt := 31) d_X11_spelt_23 (by decide) (fun c => ?_) (fun c => ?_)
      · have hV := hV.1 c
        refine s_aload_n d_X11_spelt_31 rfl (ma 0 rfl) ?_
        refine s_iload_n d_X11_spelt_32 rfl (ma 3 rfl) ?_
        obtain ⟨o, hV⟩ := hV
        refine v_RX11_144 rfl (Nat.le_of_ble_eq_true rfl) d_X11_spelt_33 o (Nat.le_of_ble_eq_true rfl) hV (fun r4 h3 hV => ?_)
        exact s_iret d_X11_spelt_36 rfl rfl ⟨_, rfl, hV⟩
      · have hV := hV.2 c
        refine s_ldc (n := (-1000000002)) d_X11_spelt_26 k_RX11_81 (by decide) (okn rfl) ?_
        refine s_goto (tgt := 36) d_X11_spelt_28 (by decide) ?_
        exact s_iret d_X11_spelt_36 rfl rfl ⟨_, rfl, hV⟩
  · have hV := hV.2 c
    refine s_ldc (n := (-1000000001)) d_X11_spelt_13 k_RX11_162 (by decide) (okn rfl) ?_
    exact s_iret d_X11_spelt_15 rfl rfl ⟨_, rfl, hV⟩

theorem d_X11_logged_0 : decode i_X11_logged.2.1 0 = .ok (.iload_n 2, 1) := by decide +kernel
theorem d_X11_logged_1 : decode i_X11_logged.2.1 1 = .ok (.ifCond .eq 11, 3) := by decide +kernel
theorem d_X11_logged_4 : decode i_X11_logged.2.1 4 = .ok (.iload_n 2, 1) := by decide +kernel
theorem d_X11_logged_5 : decode i_X11_logged.2.1 5 = .ok (.iconst 1, 1) := by decide +kernel
theorem d_X11_logged_6 : decode i_X11_logged.2.1 6 = .ok (.if_icmp .eq 6, 3) := by decide +kernel
theorem d_X11_logged_9 : decode i_X11_logged.2.1 9 = .ok (.ldc 81, 2) := by decide +kernel
theorem d_X11_logged_11 : decode i_X11_logged.2.1 11 = .ok (.ireturn, 1) := by decide +kernel
theorem d_X11_logged_12 : decode i_X11_logged.2.1 12 = .ok (.iload_n 2, 1) := by decide +kernel
theorem d_X11_logged_13 : decode i_X11_logged.2.1 13 = .ok (.ifCond .ne 14, 3) := by decide +kernel
theorem d_X11_logged_16 : decode i_X11_logged.2.1 16 = .ok (.aload_n 0, 1) := by decide +kernel
theorem d_X11_logged_17 : decode i_X11_logged.2.1 17 = .ok (.getfield 26, 3) := by decide +kernel
theorem d_X11_logged_20 : decode i_X11_logged.2.1 20 = .ok (.iload_n 1, 1) := by decide +kernel
theorem d_X11_logged_21 : decode i_X11_logged.2.1 21 = .ok (.invokevirtual 163, 3) := by decide +kernel
theorem d_X11_logged_24 : decode i_X11_logged.2.1 24 = .ok (.goto 11, 3) := by decide +kernel
theorem d_X11_logged_27 : decode i_X11_logged.2.1 27 = .ok (.aload_n 0, 1) := by decide +kernel
theorem d_X11_logged_28 : decode i_X11_logged.2.1 28 = .ok (.getfield 26, 3) := by decide +kernel
theorem d_X11_logged_31 : decode i_X11_logged.2.1 31 = .ok (.iload_n 1, 1) := by decide +kernel
theorem d_X11_logged_32 : decode i_X11_logged.2.1 32 = .ok (.invokevirtual 166, 3) := by decide +kernel
theorem d_X11_logged_35 : decode i_X11_logged.2.1 35 = .ok (.ireturn, 1) := by decide +kernel
def J_X11_logged_12 (x0 : Nat) (x1 : Int) (x2 : Int) (h : Hp) (Q : Int → Hp → Prop) : Prop :=
  (x2 ≠ 0 → (hK h x0 = 10 ∧ (hK h (hR h x0 2) = 7 ∧ C_X8_loggedSize (hR h x0 2) x1 h (fun r2 h1 => (Q r2 h1))))) ∧ (x2 = 0 → (hK h x0 = 10 ∧ (hK h (hR h x0 2) = 7 ∧ C_X8_loggedKind (hR h x0 2) x1 h (fun r4 h3 => (Q r4 h3)))))
theorem GJ_X11_logged_12 (x0 : Nat) (x1 : Int) (x2 : Int) (h : Hp) (Q : Int → Hp → Prop) (hV : J_X11_logged_12 x0 x1 x2 h Q) : Go i_X11_logged 12 [(0, .inr (.inr x0)), (1, .inl x1), (2, .inl x2)] [] h (qI Q) := by
  unfold J_X11_logged_12 at hV
  refine s_iload_n d_X11_logged_12 rfl (ma 2 rfl) ?_
  refine s_if_ne (tgt := 27) d_X11_logged_13 (by decide) (fun c => ?_) (fun c => ?_)
  · have hV := hV.1 c
    refine s_aload_n d_X11_logged_27 rfl (ma 0 rfl) ?_
    obtain ⟨o, hV⟩ := hV
    refine f_RX11_26g rfl d_X11_logged_28 o ?_
    refine s_iload_n d_X11_logged_31 rfl (ma 1 rfl) ?_
    obtain ⟨o, hV⟩ := hV
    refine v_RX11_166 rfl (Nat.le_of_ble_eq_true rfl) d_X11_logged_32 o (Nat.le_of_ble_eq_true rfl) hV (fun r2 h1 hV => ?_)
    exact s_iret d_X11_logged_35 rfl rfl ⟨_, rfl, hV⟩
  · have hV := hV.2 c
    refine s_aload_n d_X11_logged_16 rfl (ma 0 rfl) ?_
    obtain ⟨o, hV⟩ := hV
    refine f_RX11_26g rfl d_X11_logged_17 o ?_
    refine s_iload_n d_X11_logged_20 rfl (ma 1 rfl) ?_
    obtain ⟨o, hV⟩ := hV
    refine v_RX11_163 rfl (Nat.le_of_ble_eq_true rfl) d_X11_logged_21 o (Nat.le_of_ble_eq_true rfl) hV (fun r4 h3 hV => ?_)
    refine s_goto (tgt := 35) d_X11_logged_24 (by decide) ?_
    exact s_iret d_X11_logged_35 rfl rfl ⟨_, rfl, hV⟩
def V_X11_logged (x0 : Nat) (x1 : Int) (x2 : Int) (h : Hp) (Q : Int → Hp → Prop) : Prop :=
  (x2 = 0 → (J_X11_logged_12 x0 x1 x2 h Q)) ∧ (¬ x2 = 0 → ((x2 = 1 → (J_X11_logged_12 x0 x1 x2 h Q)) ∧ (¬ x2 = 1 → (Q (-1000000002) h))))
theorem G_X11_logged {x0 : Nat} {x1 : Int} {x2 : Int} (h : Hp) (Q : Int → Hp → Prop) (hV : V_X11_logged x0 x1 x2 h Q) : C_X11_logged x0 x1 x2 h Q := by
  unfold V_X11_logged at hV
  show Go i_X11_logged 0 [(0, .inr (.inr x0)), (1, .inl x1), (2, .inl x2)] [] h (qI Q)
  refine s_iload_n d_X11_logged_0 rfl (ma 2 rfl) ?_
  refine s_if_eq (tgt := 12) d_X11_logged_1 (by decide) (fun c => ?_) (fun c => ?_)
  · have hV := hV.1 c
    exact GJ_X11_logged_12 _ _ _ _ _ hV
  · have hV := hV.2 c
    refine s_iload_n d_X11_logged_4 rfl (ma 2 rfl) ?_
    refine s_iconst d_X11_logged_5 (okn rfl) ?_
    refine s_icmp_eq (tgt := 12) d_X11_logged_6 (by decide) (fun c => ?_) (fun c => ?_)
    · have hV := hV.1 c
      exact GJ_X11_logged_12 _ _ _ _ _ hV
    · have hV := hV.2 c
      refine s_ldc (n := (-1000000002)) d_X11_logged_9 k_RX11_81 (by decide) (okn rfl) ?_
      exact s_iret d_X11_logged_11 rfl rfl ⟨_, rfl, hV⟩

theorem d_X11_read_0 : decode i_X11_read.2.1 0 = .ok (.iload_n 1, 1) := by decide +kernel
theorem d_X11_read_1 : decode i_X11_read.2.1 1 = .ok (.invokestatic 169, 3) := by decide +kernel
theorem d_X11_read_4 : decode i_X11_read.2.1 4 = .ok (.ifCond .ne 6, 3) := by decide +kernel
theorem d_X11_read_7 : decode i_X11_read.2.1 7 = .ok (.ldc 81, 2) := by decide +kernel
theorem d_X11_read_9 : decode i_X11_read.2.1 9 = .ok (.ireturn, 1) := by decide +kernel
theorem d_X11_read_10 : decode i_X11_read.2.1 10 = .ok (.aload_n 0, 1) := by decide +kernel
theorem d_X11_read_11 : decode i_X11_read.2.1 11 = .ok (.getfield 26, 3) := by decide +kernel
theorem d_X11_read_14 : decode i_X11_read.2.1 14 = .ok (.getfield 128, 3) := by decide +kernel
theorem d_X11_read_17 : decode i_X11_read.2.1 17 = .ok (.ldc 172, 2) := by decide +kernel
theorem d_X11_read_19 : decode i_X11_read.2.1 19 = .ok (.if_icmp .lt 6, 3) := by decide +kernel
theorem d_X11_read_22 : decode i_X11_read.2.1 22 = .ok (.ldc 90, 2) := by decide +kernel
theorem d_X11_read_24 : decode i_X11_read.2.1 24 = .ok (.ireturn, 1) := by decide +kernel
theorem d_X11_read_25 : decode i_X11_read.2.1 25 = .ok (.iload_n 1, 1) := by decide +kernel
theorem d_X11_read_26 : decode i_X11_read.2.1 26 = .ok (.aload_n 0, 1) := by decide +kernel
theorem d_X11_read_27 : decode i_X11_read.2.1 27 = .ok (.getfield 26, 3) := by decide +kernel
theorem d_X11_read_30 : decode i_X11_read.2.1 30 = .ok (.getfield 100, 3) := by decide +kernel
theorem d_X11_read_33 : decode i_X11_read.2.1 33 = .ok (.aload_n 0, 1) := by decide +kernel
theorem d_X11_read_34 : decode i_X11_read.2.1 34 = .ok (.getfield 77, 3) := by decide +kernel
theorem d_X11_read_37 : decode i_X11_read.2.1 37 = .ok (.invokestatic 173, 3) := by decide +kernel
theorem d_X11_read_40 : decode i_X11_read.2.1 40 = .ok (.aload_n 0, 1) := by decide +kernel
theorem d_X11_read_41 : decode i_X11_read.2.1 41 = .ok (.getfield 77, 3) := by decide +kernel
theorem d_X11_read_44 : decode i_X11_read.2.1 44 = .ok (.getfield 103, 3) := by decide +kernel
theorem d_X11_read_47 : decode i_X11_read.2.1 47 = .ok (.bipush 60, 2) := by decide +kernel
theorem d_X11_read_49 : decode i_X11_read.2.1 49 = .ok (.if_icmp .le 6, 3) := by decide +kernel
theorem d_X11_read_52 : decode i_X11_read.2.1 52 = .ok (.ldc 90, 2) := by decide +kernel
theorem d_X11_read_54 : decode i_X11_read.2.1 54 = .ok (.ireturn, 1) := by decide +kernel
theorem d_X11_read_55 : decode i_X11_read.2.1 55 = .ok (.aload_n 0, 1) := by decide +kernel
theorem d_X11_read_56 : decode i_X11_read.2.1 56 = .ok (.getfield 33, 3) := by decide +kernel
theorem d_X11_read_59 : decode i_X11_read.2.1 59 = .ok (.aload_n 0, 1) := by decide +kernel
theorem d_X11_read_60 : decode i_X11_read.2.1 60 = .ok (.getfield 26, 3) := by decide +kernel
theorem d_X11_read_63 : decode i_X11_read.2.1 63 = .ok (.invokevirtual 179, 3) := by decide +kernel
theorem d_X11_read_66 : decode i_X11_read.2.1 66 = .ok (.aload_n 0, 1) := by decide +kernel
theorem d_X11_read_67 : decode i_X11_read.2.1 67 = .ok (.getfield 26, 3) := by decide +kernel
theorem d_X11_read_70 : decode i_X11_read.2.1 70 = .ok (.iload_n 1, 1) := by decide +kernel
theorem d_X11_read_71 : decode i_X11_read.2.1 71 = .ok (.aload_n 0, 1) := by decide +kernel
theorem d_X11_read_72 : decode i_X11_read.2.1 72 = .ok (.getfield 77, 3) := by decide +kernel
theorem d_X11_read_75 : decode i_X11_read.2.1 75 = .ok (.invokevirtual 183, 3) := by decide +kernel
theorem d_X11_read_78 : decode i_X11_read.2.1 78 = .ok (.aload_n 0, 1) := by decide +kernel
theorem d_X11_read_79 : decode i_X11_read.2.1 79 = .ok (.getfield 26, 3) := by decide +kernel
theorem d_X11_read_82 : decode i_X11_read.2.1 82 = .ok (.getfield 100, 3) := by decide +kernel
theorem d_X11_read_85 : decode i_X11_read.2.1 85 = .ok (.getfield 103, 3) := by decide +kernel
theorem d_X11_read_88 : decode i_X11_read.2.1 88 = .ok (.ireturn, 1) := by decide +kernel
def V_X11_read (x0 : Nat) (x1 : Int) (h : Hp) (Q : Int → Hp → Prop) : Prop :=
  C_X11_isKind x1 h (fun r2 h1 => ((r2 ≠ 0 → (hK h1 x0 = 10 ∧ (hK h1 (hR h1 x0 2) = 7 ∧ ((hI h1 (hR h1 x0 2) 4 < 90000 → (hK h1 x0 = 10 ∧ (hK h1 (hR h1 x0 2) = 7 ∧ (hK h1 x0 = 10 ∧ (C_X7_say x1 (hR h1 (hR h1 x0 2) 0) (hR h1 x0 9) h1 (fun h3 => (hK h3 x0 = 10 ∧ (hK h3 (hR h3 x0 9) = 2 ∧ ((hI h3 (hR h3 x0 9) 1 ≤ 60 → (hK h3 x0 = 10 ∧ (hK h3 x0 = 10 ∧ (hK h3 (hR h3 x0 3) = 6 ∧ C_X6_remember (hR h3 x0 3) (hR h3 x0 2) h3 (fun h4 => (hK h4 x0 = 10 ∧ (hK h4 x0 = 10 ∧ (hK h4 (hR h4 x0 2) = 7 ∧ C_X8_becomeReading (hR h4 x0 2) x1 (hR h4 x0 9) h4 (fun h5 => (hK h5 x0 = 10 ∧ (hK h5 (hR h5 x0 2) = 7 ∧ (hK h5 (hR h5 (hR h5 x0 2) 0) = 2 ∧ (Q (hI h5 (hR h5 (hR h5 x0 2) 0) 1) h5))))))))))))) ∧ (¬ hI h3 (hR h3 x0 9) 1 ≤ 60 → (Q (-1000000004) h3))))))))))) ∧ (¬ hI h1 (hR h1 x0 2) 4 < 90000 → (Q (-1000000004) h1)))))) ∧ (r2 = 0 → (Q (-1000000002) h1))))
theorem G_X11_read {x0 : Nat} {x1 : Int} (h : Hp) (Q : Int → Hp → Prop) (hV : V_X11_read x0 x1 h Q) : C_X11_read x0 x1 h Q := by
  unfold V_X11_read at hV
  show Go i_X11_read 0 [(0, .inr (.inr x0)), (1, .inl x1)] [] h (qI Q)
  refine s_iload_n d_X11_read_0 rfl (ma 1 rfl) ?_
  refine v_RX11_169 rfl (Nat.le_of_ble_eq_true rfl) d_X11_read_1 (Nat.le_of_ble_eq_true rfl) hV (fun r2 h1 hV => ?_)
  refine s_if_ne (tgt := 10) d_X11_read_4 (by decide) (fun c => ?_) (fun c => ?_)
  · have hV := hV.1 c
    refine s_aload_n d_X11_read_10 rfl (ma 0 rfl) ?_
    obtain ⟨o, hV⟩ := hV
    refine f_RX11_26g rfl d_X11_read_11 o ?_
    obtain ⟨o, hV⟩ := hV
    refine f_RX11_128g rfl d_X11_read_14 o ?_
    refine s_ldc (n := 90000) d_X11_read_17 k_RX11_172 (by decide) (okn rfl) ?_
    refine s_icmp_lt (tgt := 25) d_X11_read_19 (by decide) (fun c => ?_) (fun c => ?_)
    · have hV := hV.1 c
      refine s_iload_n d_X11_read_25 rfl (ma 1 rfl) ?_
      refine s_aload_n d_X11_read_26 rfl (ma 0 rfl) ?_
      obtain ⟨o, hV⟩ := hV
      refine f_RX11_26g rfl d_X11_read_27 o ?_
      obtain ⟨o, hV⟩ := hV
      refine f_RX11_100g rfl d_X11_read_30 o ?_
      refine s_aload_n d_X11_read_33 rfl (ma 0 rfl) ?_
      obtain ⟨o, hV⟩ := hV
      refine f_RX11_77g rfl d_X11_read_34 o ?_
      refine v_RX11_173 rfl (Nat.le_of_ble_eq_true rfl) d_X11_read_37 (Nat.le_of_ble_eq_true rfl) hV (fun h3 hV => ?_)
      refine s_aload_n d_X11_read_40 rfl (ma 0 rfl) ?_
      obtain ⟨o, hV⟩ := hV
      refine f_RX11_77g rfl d_X11_read_41 o ?_
      obtain ⟨o, hV⟩ := hV
      refine f_RX11_103g rfl d_X11_read_44 o ?_
      refine s_bipush d_X11_read_47 (by decide) (okn rfl) ?_
      refine s_icmp_le (tgt := 55) d_X11_read_49 (by decide) (fun c => ?_) (fun c => ?_)
      · have hV := hV.1 c
        refine s_aload_n d_X11_read_55 rfl (ma 0 rfl) ?_
        obtain ⟨o, hV⟩ := hV
        refine f_RX11_33g rfl d_X11_read_56 o ?_
        refine s_aload_n d_X11_read_59 rfl (ma 0 rfl) ?_
        obtain ⟨o, hV⟩ := hV
        refine f_RX11_26g rfl d_X11_read_60 o ?_
        obtain ⟨o, hV⟩ := hV
        refine v_RX11_179 rfl (Nat.le_of_ble_eq_true rfl) d_X11_read_63 o (Nat.le_of_ble_eq_true rfl) hV (fun h4 hV => ?_)
        refine s_aload_n d_X11_read_66 rfl (ma 0 rfl) ?_
        obtain ⟨o, hV⟩ := hV
        refine f_RX11_26g rfl d_X11_read_67 o ?_
        refine s_iload_n d_X11_read_70 rfl (ma 1 rfl) ?_
        refine s_aload_n d_X11_read_71 rfl (ma 0 rfl) ?_
        obtain ⟨o, hV⟩ := hV
        refine f_RX11_77g rfl d_X11_read_72 o ?_
        obtain ⟨o, hV⟩ := hV
        refine v_RX11_183 rfl (Nat.le_of_ble_eq_true rfl) d_X11_read_75 o (Nat.le_of_ble_eq_true rfl) hV (fun h5 hV => ?_)
        refine s_aload_n d_X11_read_78 rfl (ma 0 rfl) ?_
        obtain ⟨o, hV⟩ := hV
        refine f_RX11_26g rfl d_X11_read_79 o ?_
        obtain ⟨o, hV⟩ := hV
        refine f_RX11_100g rfl d_X11_read_82 o ?_
        obtain ⟨o, hV⟩ := hV
        refine f_RX11_103g rfl d_X11_read_85 o ?_
        exact s_iret d_X11_read_88 rfl rfl ⟨_, rfl, hV⟩
      · have hV := hV.2 c
        refine s_ldc (n := (-1000000004)) d_X11_read_52 k_RX11_90 (by decide) (okn rfl) ?_
        exact s_iret d_X11_read_54 rfl rfl ⟨_, rfl, hV⟩
    · have hV := hV.2 c
      refine s_ldc (n := (-1000000004)) d_X11_read_22 k_RX11_90 (by decide) (okn rfl) ?_
      exact s_iret d_X11_read_24 rfl rfl ⟨_, rfl, hV⟩
  · have hV := hV.2 c
    refine s_ldc (n := (-1000000002)) d_X11_read_7 k_RX11_81 (by decide) (okn rfl) ?_
    exact s_iret d_X11_read_9 rfl rfl ⟨_, rfl, hV⟩

theorem d_X11_unread_0 : decode i_X11_unread.2.1 0 = .ok (.aload_n 0, 1) := by decide +kernel
theorem d_X11_unread_1 : decode i_X11_unread.2.1 1 = .ok (.getfield 26, 3) := by decide +kernel
theorem d_X11_unread_4 : decode i_X11_unread.2.1 4 = .ok (.getfield 100, 3) := by decide +kernel
theorem d_X11_unread_7 : decode i_X11_unread.2.1 7 = .ok (.invokestatic 187, 3) := by decide +kernel
theorem d_X11_unread_10 : decode i_X11_unread.2.1 10 = .ok (.istore_n 1, 1) := by decide +kernel
theorem d_X11_unread_11 : decode i_X11_unread.2.1 11 = .ok (.iload_n 1, 1) := by decide +kernel
theorem d_X11_unread_12 : decode i_X11_unread.2.1 12 = .ok (.iconst (-1), 1) := by decide +kernel
theorem d_X11_unread_13 : decode i_X11_unread.2.1 13 = .ok (.if_icmp .ne 6, 3) := by decide +kernel
theorem d_X11_unread_16 : decode i_X11_unread.2.1 16 = .ok (.ldc 190, 2) := by decide +kernel
theorem d_X11_unread_18 : decode i_X11_unread.2.1 18 = .ok (.ireturn, 1) := by decide +kernel
theorem d_X11_unread_19 : decode i_X11_unread.2.1 19 = .ok (.iload_n 1, 1) := by decide +kernel
theorem d_X11_unread_20 : decode i_X11_unread.2.1 20 = .ok (.bipush 60, 2) := by decide +kernel
theorem d_X11_unread_22 : decode i_X11_unread.2.1 22 = .ok (.if_icmp .le 6, 3) := by decide +kernel
theorem d_X11_unread_25 : decode i_X11_unread.2.1 25 = .ok (.ldc 90, 2) := by decide +kernel
theorem d_X11_unread_27 : decode i_X11_unread.2.1 27 = .ok (.ireturn, 1) := by decide +kernel
theorem d_X11_unread_28 : decode i_X11_unread.2.1 28 = .ok (.aload_n 0, 1) := by decide +kernel
theorem d_X11_unread_29 : decode i_X11_unread.2.1 29 = .ok (.getfield 33, 3) := by decide +kernel
theorem d_X11_unread_32 : decode i_X11_unread.2.1 32 = .ok (.aload_n 0, 1) := by decide +kernel
theorem d_X11_unread_33 : decode i_X11_unread.2.1 33 = .ok (.getfield 26, 3) := by decide +kernel
theorem d_X11_unread_36 : decode i_X11_unread.2.1 36 = .ok (.invokevirtual 179, 3) := by decide +kernel
theorem d_X11_unread_39 : decode i_X11_unread.2.1 39 = .ok (.aload_n 0, 1) := by decide +kernel
theorem d_X11_unread_40 : decode i_X11_unread.2.1 40 = .ok (.getfield 26, 3) := by decide +kernel
theorem d_X11_unread_43 : decode i_X11_unread.2.1 43 = .ok (.getfield 100, 3) := by decide +kernel
theorem d_X11_unread_46 : decode i_X11_unread.2.1 46 = .ok (.aload_n 0, 1) := by decide +kernel
theorem d_X11_unread_47 : decode i_X11_unread.2.1 47 = .ok (.getfield 77, 3) := by decide +kernel
theorem d_X11_unread_50 : decode i_X11_unread.2.1 50 = .ok (.invokestatic 191, 3) := by decide +kernel
theorem d_X11_unread_53 : decode i_X11_unread.2.1 53 = .ok (.aload_n 0, 1) := by decide +kernel
theorem d_X11_unread_54 : decode i_X11_unread.2.1 54 = .ok (.getfield 26, 3) := by decide +kernel
theorem d_X11_unread_57 : decode i_X11_unread.2.1 57 = .ok (.getfield 100, 3) := by decide +kernel
theorem d_X11_unread_60 : decode i_X11_unread.2.1 60 = .ok (.aload_n 0, 1) := by decide +kernel
theorem d_X11_unread_61 : decode i_X11_unread.2.1 61 = .ok (.getfield 77, 3) := by decide +kernel
theorem d_X11_unread_64 : decode i_X11_unread.2.1 64 = .ok (.invokevirtual 195, 3) := by decide +kernel
theorem d_X11_unread_67 : decode i_X11_unread.2.1 67 = .ok (.aload_n 0, 1) := by decide +kernel
theorem d_X11_unread_68 : decode i_X11_unread.2.1 68 = .ok (.getfield 26, 3) := by decide +kernel
theorem d_X11_unread_71 : decode i_X11_unread.2.1 71 = .ok (.getfield 100, 3) := by decide +kernel
theorem d_X11_unread_74 : decode i_X11_unread.2.1 74 = .ok (.getfield 103, 3) := by decide +kernel
theorem d_X11_unread_77 : decode i_X11_unread.2.1 77 = .ok (.ireturn, 1) := by decide +kernel
def V_X11_unread (x0 : Nat) (h : Hp) (Q : Int → Hp → Prop) : Prop :=
  hK h x0 = 10 ∧ (hK h (hR h x0 2) = 7 ∧ (C_X7_sizeUnsaid (hR h (hR h x0 2) 0) h (fun r2 h1 => ((r2 ≠ (-1) → ((r2 ≤ 60 → (hK h1 x0 = 10 ∧ (hK h1 x0 = 10 ∧ (hK h1 (hR h1 x0 3) = 6 ∧ C_X6_remember (hR h1 x0 3) (hR h1 x0 2) h1 (fun h3 => (hK h3 x0 = 10 ∧ (hK h3 (hR h3 x0 2) = 7 ∧ (hK h3 x0 = 10 ∧ (C_X7_unsay (hR h3 (hR h3 x0 2) 0) (hR h3 x0 9) h3 (fun h4 => (hK h4 x0 = 10 ∧ (hK h4 (hR h4 x0 2) = 7 ∧ (hK h4 x0 = 10 ∧ (hK h4 (hR h4 (hR h4 x0 2) 0) = 2 ∧ C_X2_copyFrom (hR h4 (hR h4 x0 2) 0) (hR h4 x0 9) h4 (fun h5 => (hK h5 x0 = 10 ∧ (hK h5 (hR h5 x0 2) = 7 ∧ (hK h5 (hR h5 (hR h5 x0 2) 0) = 2 ∧ (Q (hI h5 (hR h5 (hR h5 x0 2) 0) 1) h5))))))))))))))))))) ∧ (¬ r2 ≤ 60 → (Q (-1000000004) h1)))) ∧ (r2 = (-1) → (Q (-1000000003) h1))))))
theorem G_X11_unread {x0 : Nat} (h : Hp) (Q : Int → Hp → Prop) (hV : V_X11_unread x0 h Q) : C_X11_unread x0 h Q := by
  unfold V_X11_unread at hV
  show Go i_X11_unread 0 [(0, .inr (.inr x0))] [] h (qI Q)
  refine s_aload_n d_X11_unread_0 rfl (ma 0 rfl) ?_
  obtain ⟨o, hV⟩ := hV
  refine f_RX11_26g rfl d_X11_unread_1 o ?_
  obtain ⟨o, hV⟩ := hV
  refine f_RX11_100g rfl d_X11_unread_4 o ?_
  refine v_RX11_187 rfl (Nat.le_of_ble_eq_true rfl) d_X11_unread_7 (Nat.le_of_ble_eq_true rfl) hV (fun r2 h1 hV => ?_)
  refine s_istore_n (lv' := [(1, .inl r2), (0, .inr (.inr x0))]) d_X11_unread_10 rfl (Nat.le_of_ble_eq_true rfl) rfl ?_
  refine s_iload_n d_X11_unread_11 rfl (ma 0 rfl) ?_
  refine s_iconst d_X11_unread_12 (okn rfl) ?_
  refine s_icmp_ne (tgt := 19) d_X11_unread_13 (by decide) (fun c => ?_) (fun c => ?_)
  · have hV := hV.1 c
    refine s_iload_n d_X11_unread_19 rfl (ma 0 rfl) ?_
    refine s_bipush d_X11_unread_20 (by decide) (okn rfl) ?_
    refine s_icmp_le (tgt := 28) d_X11_unread_22 (by decide) (fun c => ?_) (fun c => ?_)
    · have hV := hV.1 c
      refine s_aload_n d_X11_unread_28 rfl (ma 1 rfl) ?_
      obtain ⟨o, hV⟩ := hV
      refine f_RX11_33g rfl d_X11_unread_29 o ?_
      refine s_aload_n d_X11_unread_32 rfl (ma 1 rfl) ?_
      obtain ⟨o, hV⟩ := hV
      refine f_RX11_26g rfl d_X11_unread_33 o ?_
      obtain ⟨o, hV⟩ := hV
      refine v_RX11_179 rfl (Nat.le_of_ble_eq_true rfl) d_X11_unread_36 o (Nat.le_of_ble_eq_true rfl) hV (fun h3 hV => ?_)
      refine s_aload_n d_X11_unread_39 rfl (ma 1 rfl) ?_
      obtain ⟨o, hV⟩ := hV
      refine f_RX11_26g rfl d_X11_unread_40 o ?_
      obtain ⟨o, hV⟩ := hV
      refine f_RX11_100g rfl d_X11_unread_43 o ?_
      refine s_aload_n d_X11_unread_46 rfl (ma 1 rfl) ?_
      obtain ⟨o, hV⟩ := hV
      refine f_RX11_77g rfl d_X11_unread_47 o ?_
      refine v_RX11_191 rfl (Nat.le_of_ble_eq_true rfl) d_X11_unread_50 (Nat.le_of_ble_eq_true rfl) hV (fun h4 hV => ?_)
      refine s_aload_n d_X11_unread_53 rfl (ma 1 rfl) ?_
      obtain ⟨o, hV⟩ := hV
      refine f_RX11_26g rfl d_X11_unread_54 o ?_
      obtain ⟨o, hV⟩ := hV
      refine f_RX11_100g rfl d_X11_unread_57 o ?_
      refine s_aload_n d_X11_unread_60 rfl (ma 1 rfl) ?_
      obtain ⟨o, hV⟩ := hV
      refine f_RX11_77g rfl d_X11_unread_61 o ?_
      obtain ⟨o, hV⟩ := hV
      refine v_RX11_195 rfl (Nat.le_of_ble_eq_true rfl) d_X11_unread_64 o (Nat.le_of_ble_eq_true rfl) hV (fun h5 hV => ?_)
      refine s_aload_n d_X11_unread_67 rfl (ma 1 rfl) ?_
      obtain ⟨o, hV⟩ := hV
      refine f_RX11_26g rfl d_X11_unread_68 o ?_
      obtain ⟨o, hV⟩ := hV
      refine f_RX11_100g rfl d_X11_unread_71 o ?_
      obtain ⟨o, hV⟩ := hV
      refine f_RX11_103g rfl d_X11_unread_74 o ?_
      exact s_iret d_X11_unread_77 rfl rfl ⟨_, rfl, hV⟩
    · have hV := hV.2 c
      refine s_ldc (n := (-1000000004)) d_X11_unread_25 k_RX11_90 (by decide) (okn rfl) ?_
      exact s_iret d_X11_unread_27 rfl rfl ⟨_, rfl, hV⟩
  · have hV := hV.2 c
    refine s_ldc (n := (-1000000003)) d_X11_unread_16 k_RX11_190 (by decide) (okn rfl) ?_
    exact s_iret d_X11_unread_18 rfl rfl ⟨_, rfl, hV⟩

theorem d_X11_put_0 : decode i_X11_put.2.1 0 = .ok (.iload_n 1, 1) := by decide +kernel
theorem d_X11_put_1 : decode i_X11_put.2.1 1 = .ok (.invokestatic 197, 3) := by decide +kernel
theorem d_X11_put_4 : decode i_X11_put.2.1 4 = .ok (.ifCond .ne 6, 3) := by decide +kernel
theorem d_X11_put_7 : decode i_X11_put.2.1 7 = .ok (.ldc 81, 2) := by decide +kernel
theorem d_X11_put_9 : decode i_X11_put.2.1 9 = .ok (.ireturn, 1) := by decide +kernel
theorem d_X11_put_10 : decode i_X11_put.2.1 10 = .ok (.aload_n 0, 1) := by decide +kernel
theorem d_X11_put_11 : decode i_X11_put.2.1 11 = .ok (.getfield 26, 3) := by decide +kernel
theorem d_X11_put_14 : decode i_X11_put.2.1 14 = .ok (.getfield 100, 3) := by decide +kernel
theorem d_X11_put_17 : decode i_X11_put.2.1 17 = .ok (.getfield 103, 3) := by decide +kernel
theorem d_X11_put_20 : decode i_X11_put.2.1 20 = .ok (.bipush 60, 2) := by decide +kernel
theorem d_X11_put_22 : decode i_X11_put.2.1 22 = .ok (.if_icmp .lt 6, 3) := by decide +kernel
theorem d_X11_put_25 : decode i_X11_put.2.1 25 = .ok (.ldc 90, 2) := by decide +kernel
theorem d_X11_put_27 : decode i_X11_put.2.1 27 = .ok (.ireturn, 1) := by decide +kernel
theorem d_X11_put_28 : decode i_X11_put.2.1 28 = .ok (.aload_n 0, 1) := by decide +kernel
theorem d_X11_put_29 : decode i_X11_put.2.1 29 = .ok (.getfield 33, 3) := by decide +kernel
theorem d_X11_put_32 : decode i_X11_put.2.1 32 = .ok (.aload_n 0, 1) := by decide +kernel
theorem d_X11_put_33 : decode i_X11_put.2.1 33 = .ok (.getfield 26, 3) := by decide +kernel
theorem d_X11_put_36 : decode i_X11_put.2.1 36 = .ok (.invokevirtual 179, 3) := by decide +kernel
theorem d_X11_put_39 : decode i_X11_put.2.1 39 = .ok (.aload_n 0, 1) := by decide +kernel
theorem d_X11_put_40 : decode i_X11_put.2.1 40 = .ok (.getfield 26, 3) := by decide +kernel
theorem d_X11_put_43 : decode i_X11_put.2.1 43 = .ok (.getfield 100, 3) := by decide +kernel
theorem d_X11_put_46 : decode i_X11_put.2.1 46 = .ok (.iload_n 1, 1) := by decide +kernel
theorem d_X11_put_47 : decode i_X11_put.2.1 47 = .ok (.invokevirtual 200, 3) := by decide +kernel
theorem d_X11_put_50 : decode i_X11_put.2.1 50 = .ok (.pop, 1) := by decide +kernel
theorem d_X11_put_51 : decode i_X11_put.2.1 51 = .ok (.aload_n 0, 1) := by decide +kernel
theorem d_X11_put_52 : decode i_X11_put.2.1 52 = .ok (.getfield 26, 3) := by decide +kernel
theorem d_X11_put_55 : decode i_X11_put.2.1 55 = .ok (.getfield 100, 3) := by decide +kernel
theorem d_X11_put_58 : decode i_X11_put.2.1 58 = .ok (.getfield 103, 3) := by decide +kernel
theorem d_X11_put_61 : decode i_X11_put.2.1 61 = .ok (.ireturn, 1) := by decide +kernel
def V_X11_put (x0 : Nat) (x1 : Int) (h : Hp) (Q : Int → Hp → Prop) : Prop :=
  C_X11_isFigure x1 h (fun r2 h1 => ((r2 ≠ 0 → (hK h1 x0 = 10 ∧ (hK h1 (hR h1 x0 2) = 7 ∧ (hK h1 (hR h1 (hR h1 x0 2) 0) = 2 ∧ ((hI h1 (hR h1 (hR h1 x0 2) 0) 1 < 60 → (hK h1 x0 = 10 ∧ (hK h1 x0 = 10 ∧ (hK h1 (hR h1 x0 3) = 6 ∧ C_X6_remember (hR h1 x0 3) (hR h1 x0 2) h1 (fun h3 => (hK h3 x0 = 10 ∧ (hK h3 (hR h3 x0 2) = 7 ∧ (hK h3 (hR h3 (hR h3 x0 2) 0) = 2 ∧ C_X2_add (hR h3 (hR h3 x0 2) 0) x1 h3 (fun r5 h4 => (hK h4 x0 = 10 ∧ (hK h4 (hR h4 x0 2) = 7 ∧ (hK h4 (hR h4 (hR h4 x0 2) 0) = 2 ∧ (Q (hI h4 (hR h4 (hR h4 x0 2) 0) 1) h4))))))))))))) ∧ (¬ hI h1 (hR h1 (hR h1 x0 2) 0) 1 < 60 → (Q (-1000000004) h1))))))) ∧ (r2 = 0 → (Q (-1000000002) h1))))
theorem G_X11_put {x0 : Nat} {x1 : Int} (h : Hp) (Q : Int → Hp → Prop) (hV : V_X11_put x0 x1 h Q) : C_X11_put x0 x1 h Q := by
  unfold V_X11_put at hV
  show Go i_X11_put 0 [(0, .inr (.inr x0)), (1, .inl x1)] [] h (qI Q)
  refine s_iload_n d_X11_put_0 rfl (ma 1 rfl) ?_
  refine v_RX11_197 rfl (Nat.le_of_ble_eq_true rfl) d_X11_put_1 (Nat.le_of_ble_eq_true rfl) hV (fun r2 h1 hV => ?_)
  refine s_if_ne (tgt := 10) d_X11_put_4 (by decide) (fun c => ?_) (fun c => ?_)
  · have hV := hV.1 c
    refine s_aload_n d_X11_put_10 rfl (ma 0 rfl) ?_
    obtain ⟨o, hV⟩ := hV
    refine f_RX11_26g rfl d_X11_put_11 o ?_
    obtain ⟨o, hV⟩ := hV
    refine f_RX11_100g rfl d_X11_put_14 o ?_
    obtain ⟨o, hV⟩ := hV
    refine f_RX11_103g rfl d_X11_put_17 o ?_
    refine s_bipush d_X11_put_20 (by decide) (okn rfl) ?_
    refine s_icmp_lt (tgt := 28) d_X11_put_22 (by decide) (fun c => ?_) (fun c => ?_)
    · have hV := hV.1 c
      refine s_aload_n d_X11_put_28 rfl (ma 0 rfl) ?_
      obtain ⟨o, hV⟩ := hV
      refine f_RX11_33g rfl d_X11_put_29 o ?_
      refine s_aload_n d_X11_put_32 rfl (ma 0 rfl) ?_
      obtain ⟨o, hV⟩ := hV
      refine f_RX11_26g rfl d_X11_put_33 o ?_
      obtain ⟨o, hV⟩ := hV
      refine v_RX11_179 rfl (Nat.le_of_ble_eq_true rfl) d_X11_put_36 o (Nat.le_of_ble_eq_true rfl) hV (fun h3 hV => ?_)
      refine s_aload_n d_X11_put_39 rfl (ma 0 rfl) ?_
      obtain ⟨o, hV⟩ := hV
      refine f_RX11_26g rfl d_X11_put_40 o ?_
      obtain ⟨o, hV⟩ := hV
      refine f_RX11_100g rfl d_X11_put_43 o ?_
      refine s_iload_n d_X11_put_46 rfl (ma 1 rfl) ?_
      obtain ⟨o, hV⟩ := hV
      refine v_RX11_200 rfl (Nat.le_of_ble_eq_true rfl) d_X11_put_47 o (Nat.le_of_ble_eq_true rfl) hV (fun r5 h4 hV => ?_)
      refine s_pop d_X11_put_50 rfl ?_
      refine s_aload_n d_X11_put_51 rfl (ma 0 rfl) ?_
      obtain ⟨o, hV⟩ := hV
      refine f_RX11_26g rfl d_X11_put_52 o ?_
      obtain ⟨o, hV⟩ := hV
      refine f_RX11_100g rfl d_X11_put_55 o ?_
      obtain ⟨o, hV⟩ := hV
      refine f_RX11_103g rfl d_X11_put_58 o ?_
      exact s_iret d_X11_put_61 rfl rfl ⟨_, rfl, hV⟩
    · have hV := hV.2 c
      refine s_ldc (n := (-1000000004)) d_X11_put_25 k_RX11_90 (by decide) (okn rfl) ?_
      exact s_iret d_X11_put_27 rfl rfl ⟨_, rfl, hV⟩
  · have hV := hV.2 c
    refine s_ldc (n := (-1000000002)) d_X11_put_7 k_RX11_81 (by decide) (okn rfl) ?_
    exact s_iret d_X11_put_9 rfl rfl ⟨_, rfl, hV⟩

theorem d_X11_word_0 : decode i_X11_word.2.1 0 = .ok (.aload_n 0, 1) := by decide +kernel
theorem d_X11_word_1 : decode i_X11_word.2.1 1 = .ok (.getfield 19, 3) := by decide +kernel
theorem d_X11_word_4 : decode i_X11_word.2.1 4 = .ok (.iload_n 1, 1) := by decide +kernel
theorem d_X11_word_5 : decode i_X11_word.2.1 5 = .ok (.invokevirtual 159, 3) := by decide +kernel
theorem d_X11_word_8 : decode i_X11_word.2.1 8 = .ok (.astore_n 2, 1) := by decide +kernel
theorem d_X11_word_9 : decode i_X11_word.2.1 9 = .ok (.aload_n 2, 1) := by decide +kernel
theorem d_X11_word_10 : decode i_X11_word.2.1 10 = .ok (.ifnonnull 6, 3) := by decide +kernel
theorem d_X11_word_13 : decode i_X11_word.2.1 13 = .ok (.ldc 162, 2) := by decide +kernel
theorem d_X11_word_15 : decode i_X11_word.2.1 15 = .ok (.ireturn, 1) := by decide +kernel
theorem d_X11_word_16 : decode i_X11_word.2.1 16 = .ok (.aload_n 0, 1) := by decide +kernel
theorem d_X11_word_17 : decode i_X11_word.2.1 17 = .ok (.getfield 26, 3) := by decide +kernel
theorem d_X11_word_20 : decode i_X11_word.2.1 20 = .ok (.getfield 100, 3) := by decide +kernel
theorem d_X11_word_23 : decode i_X11_word.2.1 23 = .ok (.getfield 103, 3) := by decide +kernel
theorem d_X11_word_26 : decode i_X11_word.2.1 26 = .ok (.aload_n 2, 1) := by decide +kernel
theorem d_X11_word_27 : decode i_X11_word.2.1 27 = .ok (.getfield 103, 3) := by decide +kernel
theorem d_X11_word_30 : decode i_X11_word.2.1 30 = .ok (.iadd, 1) := by decide +kernel
theorem d_X11_word_31 : decode i_X11_word.2.1 31 = .ok (.bipush 60, 2) := by decide +kernel
theorem d_X11_word_33 : decode i_X11_word.2.1 33 = .ok (.if_icmp .le 6, 3) := by decide +kernel
theorem d_X11_word_36 : decode i_X11_word.2.1 36 = .ok (.ldc 90, 2) := by decide +kernel
theorem d_X11_word_38 : decode i_X11_word.2.1 38 = .ok (.ireturn, 1) := by decide +kernel
theorem d_X11_word_39 : decode i_X11_word.2.1 39 = .ok (.aload_n 0, 1) := by decide +kernel
theorem d_X11_word_40 : decode i_X11_word.2.1 40 = .ok (.getfield 33, 3) := by decide +kernel
theorem d_X11_word_43 : decode i_X11_word.2.1 43 = .ok (.aload_n 0, 1) := by decide +kernel
theorem d_X11_word_44 : decode i_X11_word.2.1 44 = .ok (.getfield 26, 3) := by decide +kernel
theorem d_X11_word_47 : decode i_X11_word.2.1 47 = .ok (.invokevirtual 179, 3) := by decide +kernel
theorem d_X11_word_50 : decode i_X11_word.2.1 50 = .ok (.aload_n 0, 1) := by decide +kernel
theorem d_X11_word_51 : decode i_X11_word.2.1 51 = .ok (.getfield 26, 3) := by decide +kernel
theorem d_X11_word_54 : decode i_X11_word.2.1 54 = .ok (.getfield 100, 3) := by decide +kernel
theorem d_X11_word_57 : decode i_X11_word.2.1 57 = .ok (.aload_n 2, 1) := by decide +kernel
theorem d_X11_word_58 : decode i_X11_word.2.1 58 = .ok (.invokevirtual 203, 3) := by decide +kernel
theorem d_X11_word_61 : decode i_X11_word.2.1 61 = .ok (.aload_n 0, 1) := by decide +kernel
theorem d_X11_word_62 : decode i_X11_word.2.1 62 = .ok (.getfield 26, 3) := by decide +kernel
theorem d_X11_word_65 : decode i_X11_word.2.1 65 = .ok (.getfield 100, 3) := by decide +kernel
theorem d_X11_word_68 : decode i_X11_word.2.1 68 = .ok (.getfield 103, 3) := by decide +kernel
theorem d_X11_word_71 : decode i_X11_word.2.1 71 = .ok (.ireturn, 1) := by decide +kernel
def V_X11_word (x0 : Nat) (x1 : Int) (h : Hp) (Q : Int → Hp → Prop) : Prop :=
  hK h x0 = 10 ∧ (hK h (hR h x0 1) = 9 ∧ C_X10_get (hR h x0 1) x1 h (fun r2 h1 => ((r2 ≠ 0 → (hK h1 x0 = 10 ∧ (hK h1 (hR h1 x0 2) = 7 ∧ (hK h1 (hR h1 (hR h1 x0 2) 0) = 2 ∧ (hK h1 r2 = 2 ∧ (((-2147483648 : Int) ≤ (hI h1 (hR h1 (hR h1 x0 2) 0) 1) + (hI h1 r2 1) ∧ (hI h1 (hR h1 (hR h1 x0 2) 0) 1) + (hI h1 r2 1) ≤ (2147483647 : Int)) ∧ (((hI h1 (hR h1 (hR h1 x0 2) 0) 1) + (hI h1 r2 1) ≤ 60 → (hK h1 x0 = 10 ∧ (hK h1 x0 = 10 ∧ (hK h1 (hR h1 x0 3) = 6 ∧ C_X6_remember (hR h1 x0 3) (hR h1 x0 2) h1 (fun h3 => (hK h3 x0 = 10 ∧ (hK h3 (hR h3 x0 2) = 7 ∧ (hK h3 (hR h3 (hR h3 x0 2) 0) = 2 ∧ C_X2_addAll (hR h3 (hR h3 x0 2) 0) r2 h3 (fun h4 => (hK h4 x0 = 10 ∧ (hK h4 (hR h4 x0 2) = 7 ∧ (hK h4 (hR h4 (hR h4 x0 2) 0) = 2 ∧ (Q (hI h4 (hR h4 (hR h4 x0 2) 0) 1) h4))))))))))))) ∧ (¬ (hI h1 (hR h1 (hR h1 x0 2) 0) 1) + (hI h1 r2 1) ≤ 60 → (Q (-1000000004) h1))))))))) ∧ (¬ r2 ≠ 0 → (Q (-1000000001) h1)))))
theorem G_X11_word {x0 : Nat} {x1 : Int} (h : Hp) (Q : Int → Hp → Prop) (hV : V_X11_word x0 x1 h Q) : C_X11_word x0 x1 h Q := by
  unfold V_X11_word at hV
  show Go i_X11_word 0 [(0, .inr (.inr x0)), (1, .inl x1)] [] h (qI Q)
  refine s_aload_n d_X11_word_0 rfl (ma 0 rfl) ?_
  obtain ⟨o, hV⟩ := hV
  refine f_RX11_19g rfl d_X11_word_1 o ?_
  refine s_iload_n d_X11_word_4 rfl (ma 1 rfl) ?_
  obtain ⟨o, hV⟩ := hV
  refine v_RX11_159 rfl (Nat.le_of_ble_eq_true rfl) d_X11_word_5 o (Nat.le_of_ble_eq_true rfl) hV (fun r2 h1 hV => ?_)
  refine s_astore_n (lv' := [(2, .inr (.inr r2)), (0, .inr (.inr x0)), (1, .inl x1)]) d_X11_word_8 rfl (Nat.le_of_ble_eq_true rfl) rfl ?_
  refine s_aload_n d_X11_word_9 rfl (ma 0 rfl) ?_
  refine s_ifnonnull (tgt := 16) d_X11_word_10 (by decide) (fun c => ?_) (fun c => ?_)
  · have hV := hV.1 c
    refine s_aload_n d_X11_word_16 rfl (ma 1 rfl) ?_
    obtain ⟨o, hV⟩ := hV
    refine f_RX11_26g rfl d_X11_word_17 o ?_
    obtain ⟨o, hV⟩ := hV
    refine f_RX11_100g rfl d_X11_word_20 o ?_
    obtain ⟨o, hV⟩ := hV
    refine f_RX11_103g rfl d_X11_word_23 o ?_
    refine s_aload_n d_X11_word_26 rfl (ma 0 rfl) ?_
    obtain ⟨o, hV⟩ := hV
    refine f_RX11_103g rfl d_X11_word_27 o ?_
    obtain ⟨o, hV⟩ := hV
    refine s_iadd d_X11_word_30 o ?_
    refine s_bipush d_X11_word_31 (by decide) (okn rfl) ?_
    refine s_icmp_le (tgt := 39) d_X11_word_33 (by decide) (fun c => ?_) (fun c => ?_)
    · have hV := hV.1 c
      refine s_aload_n d_X11_word_39 rfl (ma 1 rfl) ?_
      obtain ⟨o, hV⟩ := hV
      refine f_RX11_33g rfl d_X11_word_40 o ?_
      refine s_aload_n d_X11_word_43 rfl (ma 1 rfl) ?_
      obtain ⟨o, hV⟩ := hV
      refine f_RX11_26g rfl d_X11_word_44 o ?_
      obtain ⟨o, hV⟩ := hV
      refine v_RX11_179 rfl (Nat.le_of_ble_eq_true rfl) d_X11_word_47 o (Nat.le_of_ble_eq_true rfl) hV (fun h3 hV => ?_)
      refine s_aload_n d_X11_word_50 rfl (ma 1 rfl) ?_
      obtain ⟨o, hV⟩ := hV
      refine f_RX11_26g rfl d_X11_word_51 o ?_
      obtain ⟨o, hV⟩ := hV
      refine f_RX11_100g rfl d_X11_word_54 o ?_
      refine s_aload_n d_X11_word_57 rfl (ma 0 rfl) ?_
      obtain ⟨o, hV⟩ := hV
      refine v_RX11_203 rfl (Nat.le_of_ble_eq_true rfl) d_X11_word_58 o (Nat.le_of_ble_eq_true rfl) hV (fun h4 hV => ?_)
      refine s_aload_n d_X11_word_61 rfl (ma 1 rfl) ?_
      obtain ⟨o, hV⟩ := hV
      refine f_RX11_26g rfl d_X11_word_62 o ?_
      obtain ⟨o, hV⟩ := hV
      refine f_RX11_100g rfl d_X11_word_65 o ?_
      obtain ⟨o, hV⟩ := hV
      refine f_RX11_103g rfl d_X11_word_68 o ?_
      exact s_iret d_X11_word_71 rfl rfl ⟨_, rfl, hV⟩
    · have hV := hV.2 c
      refine s_ldc (n := (-1000000004)) d_X11_word_36 k_RX11_90 (by decide) (okn rfl) ?_
      exact s_iret d_X11_word_38 rfl rfl ⟨_, rfl, hV⟩
  · have hV := hV.2 c
    refine s_ldc (n := (-1000000001)) d_X11_word_13 k_RX11_162 (by decide) (okn rfl) ?_
    exact s_iret d_X11_word_15 rfl rfl ⟨_, rfl, hV⟩

theorem d_X11_change_0 : decode i_X11_change.2.1 0 = .ok (.aload_n 0, 1) := by decide +kernel
theorem d_X11_change_1 : decode i_X11_change.2.1 1 = .ok (.getfield 26, 3) := by decide +kernel
theorem d_X11_change_4 : decode i_X11_change.2.1 4 = .ok (.getfield 100, 3) := by decide +kernel
theorem d_X11_change_7 : decode i_X11_change.2.1 7 = .ok (.iload_n 1, 1) := by decide +kernel
theorem d_X11_change_8 : decode i_X11_change.2.1 8 = .ok (.invokevirtual 144, 3) := by decide +kernel
theorem d_X11_change_11 : decode i_X11_change.2.1 11 = .ok (.istore_n 3, 1) := by decide +kernel
theorem d_X11_change_12 : decode i_X11_change.2.1 12 = .ok (.iload_n 3, 1) := by decide +kernel
theorem d_X11_change_13 : decode i_X11_change.2.1 13 = .ok (.iconst (-1), 1) := by decide +kernel
theorem d_X11_change_14 : decode i_X11_change.2.1 14 = .ok (.if_icmp .ne 6, 3) := by decide +kernel
theorem d_X11_change_17 : decode i_X11_change.2.1 17 = .ok (.ldc 162, 2) := by decide +kernel
theorem d_X11_change_19 : decode i_X11_change.2.1 19 = .ok (.ireturn, 1) := by decide +kernel
theorem d_X11_change_20 : decode i_X11_change.2.1 20 = .ok (.iload_n 2, 1) := by decide +kernel
theorem d_X11_change_21 : decode i_X11_change.2.1 21 = .ok (.invokestatic 197, 3) := by decide +kernel
theorem d_X11_change_24 : decode i_X11_change.2.1 24 = .ok (.ifCond .ne 6, 3) := by decide +kernel
theorem d_X11_change_27 : decode i_X11_change.2.1 27 = .ok (.ldc 81, 2) := by decide +kernel
theorem d_X11_change_29 : decode i_X11_change.2.1 29 = .ok (.ireturn, 1) := by decide +kernel
theorem d_X11_change_30 : decode i_X11_change.2.1 30 = .ok (.aload_n 0, 1) := by decide +kernel
theorem d_X11_change_31 : decode i_X11_change.2.1 31 = .ok (.getfield 33, 3) := by decide +kernel
theorem d_X11_change_34 : decode i_X11_change.2.1 34 = .ok (.aload_n 0, 1) := by decide +kernel
theorem d_X11_change_35 : decode i_X11_change.2.1 35 = .ok (.getfield 26, 3) := by decide +kernel
theorem d_X11_change_38 : decode i_X11_change.2.1 38 = .ok (.invokevirtual 179, 3) := by decide +kernel
theorem d_X11_change_41 : decode i_X11_change.2.1 41 = .ok (.aload_n 0, 1) := by decide +kernel
theorem d_X11_change_42 : decode i_X11_change.2.1 42 = .ok (.getfield 26, 3) := by decide +kernel
theorem d_X11_change_45 : decode i_X11_change.2.1 45 = .ok (.getfield 100, 3) := by decide +kernel
theorem d_X11_change_48 : decode i_X11_change.2.1 48 = .ok (.iload_n 1, 1) := by decide +kernel
theorem d_X11_change_49 : decode i_X11_change.2.1 49 = .ok (.iload_n 2, 1) := by decide +kernel
theorem d_X11_change_50 : decode i_X11_change.2.1 50 = .ok (.invokevirtual 206, 3) := by decide +kernel
theorem d_X11_change_53 : decode i_X11_change.2.1 53 = .ok (.iload_n 3, 1) := by decide +kernel
theorem d_X11_change_54 : decode i_X11_change.2.1 54 = .ok (.ireturn, 1) := by decide +kernel
def V_X11_change (x0 : Nat) (x1 : Int) (x2 : Int) (h : Hp) (Q : Int → Hp → Prop) : Prop :=
  hK h x0 = 10 ∧ (hK h (hR h x0 2) = 7 ∧ (hK h (hR h (hR h x0 2) 0) = 2 ∧ C_X2_get (hR h (hR h x0 2) 0) x1 h (fun r2 h1 => ((r2 ≠ (-1) → (C_X11_isFigure x2 h1 (fun r4 h3 => ((r4 ≠ 0 → (hK h3 x0 = 10 ∧ (hK h3 x0 = 10 ∧ (hK h3 (hR h3 x0 3) = 6 ∧ C_X6_remember (hR h3 x0 3) (hR h3 x0 2) h3 (fun h5 => (hK h5 x0 = 10 ∧ (hK h5 (hR h5 x0 2) = 7 ∧ (hK h5 (hR h5 (hR h5 x0 2) 0) = 2 ∧ C_X2_set (hR h5 (hR h5 x0 2) 0) x1 x2 h5 (fun h6 => (Q r2 h6)))))))))) ∧ (r4 = 0 → (Q (-1000000002) h3)))))) ∧ (r2 = (-1) → (Q (-1000000001) h1))))))
theorem G_X11_change {x0 : Nat} {x1 : Int} {x2 : Int} (h : Hp) (Q : Int → Hp → Prop) (hV : V_X11_change x0 x1 x2 h Q) : C_X11_change x0 x1 x2 h Q := by
  unfold V_X11_change at hV
  show Go i_X11_change 0 [(0, .inr (.inr x0)), (1, .inl x1), (2, .inl x2)] [] h (qI Q)
  refine s_aload_n d_X11_change_0 rfl (ma 0 rfl) ?_
  obtain ⟨o, hV⟩ := hV
  refine f_RX11_26g rfl d_X11_change_1 o ?_
  obtain ⟨o, hV⟩ := hV
  refine f_RX11_100g rfl d_X11_change_4 o ?_
  refine s_iload_n d_X11_change_7 rfl (ma 1 rfl) ?_
  obtain ⟨o, hV⟩ := hV
  refine v_RX11_144 rfl (Nat.le_of_ble_eq_true rfl) d_X11_change_8 o (Nat.le_of_ble_eq_true rfl) hV (fun r2 h1 hV => ?_)
  refine s_istore_n (lv' := [(3, .inl r2), (0, .inr (.inr x0)), (1, .inl x1), (2, .inl x2)]) d_X11_change_11 rfl (Nat.le_of_ble_eq_true rfl) rfl ?_
  refine s_iload_n d_X11_change_12 rfl (ma 0 rfl) ?_
  refine s_iconst d_X11_change_13 (okn rfl) ?_
  refine s_icmp_ne (tgt := 20) d_X11_change_14 (by decide) (fun c => ?_) (fun c => ?_)
  · have hV := hV.1 c
    refine s_iload_n d_X11_change_20 rfl (ma 3 rfl) ?_
    refine v_RX11_197 rfl (Nat.le_of_ble_eq_true rfl) d_X11_change_21 (Nat.le_of_ble_eq_true rfl) hV (fun r4 h3 hV => ?_)
    refine s_if_ne (tgt := 30) d_X11_change_24 (by decide) (fun c => ?_) (fun c => ?_)
    · have hV := hV.1 c
      refine s_aload_n d_X11_change_30 rfl (ma 1 rfl) ?_
      obtain ⟨o, hV⟩ := hV
      refine f_RX11_33g rfl d_X11_change_31 o ?_
      refine s_aload_n d_X11_change_34 rfl (ma 1 rfl) ?_
      obtain ⟨o, hV⟩ := hV
      refine f_RX11_26g rfl d_X11_change_35 o ?_
      obtain ⟨o, hV⟩ := hV
      refine v_RX11_179 rfl (Nat.le_of_ble_eq_true rfl) d_X11_change_38 o (Nat.le_of_ble_eq_true rfl) hV (fun h5 hV => ?_)
      refine s_aload_n d_X11_change_41 rfl (ma 1 rfl) ?_
      obtain ⟨o, hV⟩ := hV
      refine f_RX11_26g rfl d_X11_change_42 o ?_
      obtain ⟨o, hV⟩ := hV
      refine f_RX11_100g rfl d_X11_change_45 o ?_
      refine s_iload_n d_X11_change_48 rfl (ma 2 rfl) ?_
      refine s_iload_n d_X11_change_49 rfl (ma 3 rfl) ?_
      obtain ⟨o, hV⟩ := hV
      refine v_RX11_206 rfl (Nat.le_of_ble_eq_true rfl) d_X11_change_50 o (Nat.le_of_ble_eq_true rfl) hV (fun h6 hV => ?_)
      refine s_iload_n d_X11_change_53 rfl (ma 0 rfl) ?_
      exact s_iret d_X11_change_54 rfl rfl ⟨_, rfl, hV⟩
    · have hV := hV.2 c
      refine s_ldc (n := (-1000000002)) d_X11_change_27 k_RX11_81 (by decide) (okn rfl) ?_
      exact s_iret d_X11_change_29 rfl rfl ⟨_, rfl, hV⟩
  · have hV := hV.2 c
    refine s_ldc (n := (-1000000001)) d_X11_change_17 k_RX11_162 (by decide) (okn rfl) ?_
    exact s_iret d_X11_change_19 rfl rfl ⟨_, rfl, hV⟩

theorem d_X11_drop_0 : decode i_X11_drop.2.1 0 = .ok (.iload_n 1, 1) := by decide +kernel
theorem d_X11_drop_1 : decode i_X11_drop.2.1 1 = .ok (.ifCond .lt 17, 3) := by decide +kernel
theorem d_X11_drop_4 : decode i_X11_drop.2.1 4 = .ok (.iload_n 1, 1) := by decide +kernel
theorem d_X11_drop_5 : decode i_X11_drop.2.1 5 = .ok (.aload_n 0, 1) := by decide +kernel
theorem d_X11_drop_6 : decode i_X11_drop.2.1 6 = .ok (.getfield 26, 3) := by decide +kernel
theorem d_X11_drop_9 : decode i_X11_drop.2.1 9 = .ok (.getfield 100, 3) := by decide +kernel
theorem d_X11_drop_12 : decode i_X11_drop.2.1 12 = .ok (.getfield 103, 3) := by decide +kernel
theorem d_X11_drop_15 : decode i_X11_drop.2.1 15 = .ok (.if_icmp .le 6, 3) := by decide +kernel
theorem d_X11_drop_18 : decode i_X11_drop.2.1 18 = .ok (.ldc 81, 2) := by decide +kernel
theorem d_X11_drop_20 : decode i_X11_drop.2.1 20 = .ok (.ireturn, 1) := by decide +kernel
theorem d_X11_drop_21 : decode i_X11_drop.2.1 21 = .ok (.aload_n 0, 1) := by decide +kernel
theorem d_X11_drop_22 : decode i_X11_drop.2.1 22 = .ok (.getfield 33, 3) := by decide +kernel
theorem d_X11_drop_25 : decode i_X11_drop.2.1 25 = .ok (.aload_n 0, 1) := by decide +kernel
theorem d_X11_drop_26 : decode i_X11_drop.2.1 26 = .ok (.getfield 26, 3) := by decide +kernel
theorem d_X11_drop_29 : decode i_X11_drop.2.1 29 = .ok (.invokevirtual 179, 3) := by decide +kernel
theorem d_X11_drop_32 : decode i_X11_drop.2.1 32 = .ok (.aload_n 0, 1) := by decide +kernel
theorem d_X11_drop_33 : decode i_X11_drop.2.1 33 = .ok (.getfield 26, 3) := by decide +kernel
theorem d_X11_drop_36 : decode i_X11_drop.2.1 36 = .ok (.getfield 100, 3) := by decide +kernel
theorem d_X11_drop_39 : decode i_X11_drop.2.1 39 = .ok (.iload_n 1, 1) := by decide +kernel
theorem d_X11_drop_40 : decode i_X11_drop.2.1 40 = .ok (.invokevirtual 210, 3) := by decide +kernel
theorem d_X11_drop_43 : decode i_X11_drop.2.1 43 = .ok (.aload_n 0, 1) := by decide +kernel
theorem d_X11_drop_44 : decode i_X11_drop.2.1 44 = .ok (.getfield 26, 3) := by decide +kernel
theorem d_X11_drop_47 : decode i_X11_drop.2.1 47 = .ok (.getfield 100, 3) := by decide +kernel
theorem d_X11_drop_50 : decode i_X11_drop.2.1 50 = .ok (.getfield 103, 3) := by decide +kernel
theorem d_X11_drop_53 : decode i_X11_drop.2.1 53 = .ok (.ireturn, 1) := by decide +kernel
def V_X11_drop (x0 : Nat) (x1 : Int) (h : Hp) (Q : Int → Hp → Prop) : Prop :=
  (x1 < 0 → (Q (-1000000002) h)) ∧ (¬ x1 < 0 → (hK h x0 = 10 ∧ (hK h (hR h x0 2) = 7 ∧ (hK h (hR h (hR h x0 2) 0) = 2 ∧ ((x1 ≤ hI h (hR h (hR h x0 2) 0) 1 → (hK h x0 = 10 ∧ (hK h x0 = 10 ∧ (hK h (hR h x0 3) = 6 ∧ C_X6_remember (hR h x0 3) (hR h x0 2) h (fun h1 => (hK h1 x0 = 10 ∧ (hK h1 (hR h1 x0 2) = 7 ∧ (hK h1 (hR h1 (hR h1 x0 2) 0) = 2 ∧ C_X2_cut (hR h1 (hR h1 x0 2) 0) x1 h1 (fun h2 => (hK h2 x0 = 10 ∧ (hK h2 (hR h2 x0 2) = 7 ∧ (hK h2 (hR h2 (hR h2 x0 2) 0) = 2 ∧ (Q (hI h2 (hR h2 (hR h2 x0 2) 0) 1) h2))))))))))))) ∧ (¬ x1 ≤ hI h (hR h (hR h x0 2) 0) 1 → (Q (-1000000002) h)))))))
theorem G_X11_drop {x0 : Nat} {x1 : Int} (h : Hp) (Q : Int → Hp → Prop) (hV : V_X11_drop x0 x1 h Q) : C_X11_drop x0 x1 h Q := by
  unfold V_X11_drop at hV
  show Go i_X11_drop 0 [(0, .inr (.inr x0)), (1, .inl x1)] [] h (qI Q)
  refine s_iload_n d_X11_drop_0 rfl (ma 1 rfl) ?_
  refine s_if_lt (tgt := 18) d_X11_drop_1 (by decide) (fun c => ?_) (fun c => ?_)
  · have hV := hV.1 c
    refine s_ldc (n := (-1000000002)) d_X11_drop_18 k_RX11_81 (by decide) (okn rfl) ?_
    exact s_iret d_X11_drop_20 rfl rfl ⟨_, rfl, hV⟩
  · have hV := hV.2 c
    refine s_iload_n d_X11_drop_4 rfl (ma 1 rfl) ?_
    refine s_aload_n d_X11_drop_5 rfl (ma 0 rfl) ?_
    obtain ⟨o, hV⟩ := hV
    refine f_RX11_26g rfl d_X11_drop_6 o ?_
    obtain ⟨o, hV⟩ := hV
    refine f_RX11_100g rfl d_X11_drop_9 o ?_
    obtain ⟨o, hV⟩ := hV
    refine f_RX11_103g rfl d_X11_drop_12 o ?_
    refine s_icmp_le (tgt := 21) d_X11_drop_15 (by decide) (fun c => ?_) (fun c => ?_)
    · have hV := hV.1 c
      refine s_aload_n d_X11_drop_21 rfl (ma 0 rfl) ?_
      obtain ⟨o, hV⟩ := hV
      refine f_RX11_33g rfl d_X11_drop_22 o ?_
      refine s_aload_n d_X11_drop_25 rfl (ma 0 rfl) ?_
      obtain ⟨o, hV⟩ := hV
      refine f_RX11_26g rfl d_X11_drop_26 o ?_
      obtain ⟨o, hV⟩ := hV
      refine v_RX11_179 rfl (Nat.le_of_ble_eq_true rfl) d_X11_drop_29 o (Nat.le_of_ble_eq_true rfl) hV (fun h1 hV => ?_)
      refine s_aload_n d_X11_drop_32 rfl (ma 0 rfl) ?_
      obtain ⟨o, hV⟩ := hV
      refine f_RX11_26g rfl d_X11_drop_33 o ?_
      obtain ⟨o, hV⟩ := hV
      refine f_RX11_100g rfl d_X11_drop_36 o ?_
      refine s_iload_n d_X11_drop_39 rfl (ma 1 rfl) ?_
      obtain ⟨o, hV⟩ := hV
      refine v_RX11_210 rfl (Nat.le_of_ble_eq_true rfl) d_X11_drop_40 o (Nat.le_of_ble_eq_true rfl) hV (fun h2 hV => ?_)
      refine s_aload_n d_X11_drop_43 rfl (ma 0 rfl) ?_
      obtain ⟨o, hV⟩ := hV
      refine f_RX11_26g rfl d_X11_drop_44 o ?_
      obtain ⟨o, hV⟩ := hV
      refine f_RX11_100g rfl d_X11_drop_47 o ?_
      obtain ⟨o, hV⟩ := hV
      refine f_RX11_103g rfl d_X11_drop_50 o ?_
      exact s_iret d_X11_drop_53 rfl rfl ⟨_, rfl, hV⟩
    · have hV := hV.2 c
      refine s_ldc (n := (-1000000002)) d_X11_drop_18 k_RX11_81 (by decide) (okn rfl) ?_
      exact s_iret d_X11_drop_20 rfl rfl ⟨_, rfl, hV⟩

theorem d_X11_turn_0 : decode i_X11_turn.2.1 0 = .ok (.aload_n 0, 1) := by decide +kernel
theorem d_X11_turn_1 : decode i_X11_turn.2.1 1 = .ok (.getfield 33, 3) := by decide +kernel
theorem d_X11_turn_4 : decode i_X11_turn.2.1 4 = .ok (.aload_n 0, 1) := by decide +kernel
theorem d_X11_turn_5 : decode i_X11_turn.2.1 5 = .ok (.getfield 26, 3) := by decide +kernel
theorem d_X11_turn_8 : decode i_X11_turn.2.1 8 = .ok (.invokevirtual 179, 3) := by decide +kernel
theorem d_X11_turn_11 : decode i_X11_turn.2.1 11 = .ok (.aload_n 0, 1) := by decide +kernel
theorem d_X11_turn_12 : decode i_X11_turn.2.1 12 = .ok (.getfield 26, 3) := by decide +kernel
theorem d_X11_turn_15 : decode i_X11_turn.2.1 15 = .ok (.getfield 100, 3) := by decide +kernel
theorem d_X11_turn_18 : decode i_X11_turn.2.1 18 = .ok (.invokevirtual 213, 3) := by decide +kernel
theorem d_X11_turn_21 : decode i_X11_turn.2.1 21 = .ok (.aload_n 0, 1) := by decide +kernel
theorem d_X11_turn_22 : decode i_X11_turn.2.1 22 = .ok (.getfield 26, 3) := by decide +kernel
theorem d_X11_turn_25 : decode i_X11_turn.2.1 25 = .ok (.getfield 100, 3) := by decide +kernel
theorem d_X11_turn_28 : decode i_X11_turn.2.1 28 = .ok (.iconst 0, 1) := by decide +kernel
theorem d_X11_turn_29 : decode i_X11_turn.2.1 29 = .ok (.invokevirtual 144, 3) := by decide +kernel
theorem d_X11_turn_32 : decode i_X11_turn.2.1 32 = .ok (.ireturn, 1) := by decide +kernel
def V_X11_turn (x0 : Nat) (h : Hp) (Q : Int → Hp → Prop) : Prop :=
  hK h x0 = 10 ∧ (hK h x0 = 10 ∧ (hK h (hR h x0 3) = 6 ∧ C_X6_remember (hR h x0 3) (hR h x0 2) h (fun h1 => (hK h1 x0 = 10 ∧ (hK h1 (hR h1 x0 2) = 7 ∧ (hK h1 (hR h1 (hR h1 x0 2) 0) = 2 ∧ C_X2_reverse (hR h1 (hR h1 x0 2) 0)  h1 (fun h2 => (hK h2 x0 = 10 ∧ (hK h2 (hR h2 x0 2) = 7 ∧ (hK h2 (hR h2 (hR h2 x0 2) 0) = 2 ∧ C_X2_get (hR h2 (hR h2 x0 2) 0) 0 h2 (fun r4 h3 => (Q r4 h3))))))))))))
theorem G_X11_turn {x0 : Nat} (h : Hp) (Q : Int → Hp → Prop) (hV : V_X11_turn x0 h Q) : C_X11_turn x0 h Q := by
  unfold V_X11_turn at hV
  show Go i_X11_turn 0 [(0, .inr (.inr x0))] [] h (qI Q)
  refine s_aload_n d_X11_turn_0 rfl (ma 0 rfl) ?_
  obtain ⟨o, hV⟩ := hV
  refine f_RX11_33g rfl d_X11_turn_1 o ?_
  refine s_aload_n d_X11_turn_4 rfl (ma 0 rfl) ?_
  obtain ⟨o, hV⟩ := hV
  refine f_RX11_26g rfl d_X11_turn_5 o ?_
  obtain ⟨o, hV⟩ := hV
  refine v_RX11_179 rfl (Nat.le_of_ble_eq_true rfl) d_X11_turn_8 o (Nat.le_of_ble_eq_true rfl) hV (fun h1 hV => ?_)
  refine s_aload_n d_X11_turn_11 rfl (ma 0 rfl) ?_
  obtain ⟨o, hV⟩ := hV
  refine f_RX11_26g rfl d_X11_turn_12 o ?_
  obtain ⟨o, hV⟩ := hV
  refine f_RX11_100g rfl d_X11_turn_15 o ?_
  obtain ⟨o, hV⟩ := hV
  refine v_RX11_213 rfl (Nat.le_of_ble_eq_true rfl) d_X11_turn_18 o (Nat.le_of_ble_eq_true rfl) hV (fun h2 hV => ?_)
  refine s_aload_n d_X11_turn_21 rfl (ma 0 rfl) ?_
  obtain ⟨o, hV⟩ := hV
  refine f_RX11_26g rfl d_X11_turn_22 o ?_
  obtain ⟨o, hV⟩ := hV
  refine f_RX11_100g rfl d_X11_turn_25 o ?_
  refine s_iconst d_X11_turn_28 (okn rfl) ?_
  obtain ⟨o, hV⟩ := hV
  refine v_RX11_144 rfl (Nat.le_of_ble_eq_true rfl) d_X11_turn_29 o (Nat.le_of_ble_eq_true rfl) hV (fun r4 h3 hV => ?_)
  exact s_iret d_X11_turn_32 rfl rfl ⟨_, rfl, hV⟩

theorem d_X11_drift_0 : decode i_X11_drift.2.1 0 = .ok (.iload_n 1, 1) := by decide +kernel
theorem d_X11_drift_1 : decode i_X11_drift.2.1 1 = .ok (.iconst 1, 1) := by decide +kernel
theorem d_X11_drift_2 : decode i_X11_drift.2.1 2 = .ok (.if_icmp .lt 9, 3) := by decide +kernel
theorem d_X11_drift_5 : decode i_X11_drift.2.1 5 = .ok (.iload_n 1, 1) := by decide +kernel
theorem d_X11_drift_6 : decode i_X11_drift.2.1 6 = .ok (.bipush 20, 2) := by decide +kernel
theorem d_X11_drift_8 : decode i_X11_drift.2.1 8 = .ok (.if_icmp .le 6, 3) := by decide +kernel
theorem d_X11_drift_11 : decode i_X11_drift.2.1 11 = .ok (.ldc 81, 2) := by decide +kernel
theorem d_X11_drift_13 : decode i_X11_drift.2.1 13 = .ok (.ireturn, 1) := by decide +kernel
theorem d_X11_drift_14 : decode i_X11_drift.2.1 14 = .ok (.aload_n 0, 1) := by decide +kernel
theorem d_X11_drift_15 : decode i_X11_drift.2.1 15 = .ok (.getfield 26, 3) := by decide +kernel
theorem d_X11_drift_18 : decode i_X11_drift.2.1 18 = .ok (.getfield 128, 3) := by decide +kernel
theorem d_X11_drift_21 : decode i_X11_drift.2.1 21 = .ok (.ldc 172, 2) := by decide +kernel
theorem d_X11_drift_23 : decode i_X11_drift.2.1 23 = .ok (.if_icmp .lt 6, 3) := by decide +kernel
theorem d_X11_drift_26 : decode i_X11_drift.2.1 26 = .ok (.ldc 90, 2) := by decide +kernel
theorem d_X11_drift_28 : decode i_X11_drift.2.1 28 = .ok (.ireturn, 1) := by decide +kernel
theorem d_X11_drift_29 : decode i_X11_drift.2.1 29 = .ok (.iconst 0, 1) := by decide +kernel
theorem d_X11_drift_30 : decode i_X11_drift.2.1 30 = .ok (.istore_n 2, 1) := by decide +kernel
theorem d_X11_drift_31 : decode i_X11_drift.2.1 31 = .ok (.iload_n 2, 1) := by decide +kernel
theorem d_X11_drift_32 : decode i_X11_drift.2.1 32 = .ok (.iload_n 1, 1) := by decide +kernel
theorem d_X11_drift_33 : decode i_X11_drift.2.1 33 = .ok (.if_icmp .ge 24, 3) := by decide +kernel
theorem d_X11_drift_36 : decode i_X11_drift.2.1 36 = .ok (.aload_n 0, 1) := by decide +kernel
theorem d_X11_drift_37 : decode i_X11_drift.2.1 37 = .ok (.getfield 33, 3) := by decide +kernel
theorem d_X11_drift_40 : decode i_X11_drift.2.1 40 = .ok (.aload_n 0, 1) := by decide +kernel
theorem d_X11_drift_41 : decode i_X11_drift.2.1 41 = .ok (.getfield 26, 3) := by decide +kernel
theorem d_X11_drift_44 : decode i_X11_drift.2.1 44 = .ok (.invokevirtual 179, 3) := by decide +kernel
theorem d_X11_drift_47 : decode i_X11_drift.2.1 47 = .ok (.aload_n 0, 1) := by decide +kernel
theorem d_X11_drift_48 : decode i_X11_drift.2.1 48 = .ok (.invokevirtual 216, 3) := by decide +kernel
theorem d_X11_drift_51 : decode i_X11_drift.2.1 51 = .ok (.iinc 2 1, 3) := by decide +kernel
theorem d_X11_drift_54 : decode i_X11_drift.2.1 54 = .ok (.goto (-23), 3) := by decide +kernel
theorem d_X11_drift_57 : decode i_X11_drift.2.1 57 = .ok (.aload_n 0, 1) := by decide +kernel
theorem d_X11_drift_58 : decode i_X11_drift.2.1 58 = .ok (.getfield 26, 3) := by decide +kernel
theorem d_X11_drift_61 : decode i_X11_drift.2.1 61 = .ok (.getfield 100, 3) := by decide +kernel
theorem d_X11_drift_64 : decode i_X11_drift.2.1 64 = .ok (.getfield 103, 3) := by decide +kernel
theorem d_X11_drift_67 : decode i_X11_drift.2.1 67 = .ok (.ireturn, 1) := by decide +kernel
def BLp_X11_drift_31 (x0 : Nat) (x1 : Int) (P31 : Int → Hp → Prop) (x2 : Int) (h : Hp) (Q : Int → Hp → Prop) : Prop :=
  (x1 ≤ x2 → (hK h x0 = 10 ∧ (hK h (hR h x0 2) = 7 ∧ (hK h (hR h (hR h x0 2) 0) = 2 ∧ (Q (hI h (hR h (hR h x0 2) 0) 1) h))))) ∧ (¬ x1 ≤ x2 → (hK h x0 = 10 ∧ (hK h x0 = 10 ∧ (hK h (hR h x0 3) = 6 ∧ C_X6_remember (hR h x0 3) (hR h x0 2) h (fun h1 => (hK h1 x0 = 10 ∧ C_X11_driftOnce x0  h1 (fun h2 => (((-2147483648 : Int) ≤ x2 + 1 ∧ x2 + 1 ≤ (2147483647 : Int)) ∧ (P31 (x2 + 1) h2)))))))))
def Lp_X11_drift_31 (x0 : Nat) (x1 : Int) (x2 : Int) (h : Hp) (Q : Int → Hp → Prop) : Prop := ∀ P31 : Int → Hp → Prop, (∀ (x2 : Int) (h : Hp), BLp_X11_drift_31 x0 x1 P31 x2 h Q → P31 x2 h) → P31 x2 h
theorem Lp_X11_drift_31_ind {x0 : Nat} {x1 : Int} {Q : Int → Hp → Prop} (I : Int → Hp → Prop) (μ : Int → Hp → Nat) (hs : ∀ (P31 : Int → Hp → Prop) (x2 : Int) (h : Hp), I x2 h → (∀ (x2' : Int) (h' : Hp), I x2' h' → μ x2' h' < μ x2 h → P31 x2' h') → BLp_X11_drift_31 x0 x1 P31 x2 h Q) : ∀ (x2 : Int) (h : Hp), I x2 h → Lp_X11_drift_31 x0 x1 x2 h Q := by
  intro x2 h hI P31 hP
  have key : ∀ (n : Nat) (x2 : Int) (h : Hp), I x2 h → μ x2 h < n → P31 x2 h := by
    intro n
    induction n with
    | zero => intro x2 h _ hl; exact absurd hl (Nat.not_lt_zero _)
    | succ n ih => intro x2 h hi hl; exact hP x2 h (hs P31 x2 h hi (fun x2 h' hi' hl' => ih x2 h' hi' (by omega)))
  exact key _ x2 h hI (Nat.lt_succ_self _)
theorem GLp_X11_drift_31 (x0 : Nat) (x1 : Int) (x2 : Int) (h : Hp) (Q : Int → Hp → Prop) (hV : Lp_X11_drift_31 x0 x1 x2 h Q) : Go i_X11_drift 31 [(0, .inr (.inr x0)), (1, .inl x1), (2, .inl x2)] [] h (qI Q) := by
  refine hV (fun x2 h => Go i_X11_drift 31 [(0, .inr (.inr x0)), (1, .inl x1), (2, .inl x2)] [] h (qI Q)) (fun x2 h hV => ?_)
  unfold BLp_X11_drift_31 at hV
  have hP31 : ∀ (x2 : Int) (h : Hp), Go i_X11_drift 31 [(0, .inr (.inr x0)), (1, .inl x1), (2, .inl x2)] [] h (qI Q) → Go i_X11_drift 31 [(0, .inr (.inr x0)), (1, .inl x1), (2, .inl x2)] [] h (qI Q) := fun _ h z => z
  refine s_iload_n d_X11_drift_31 rfl (ma 2 rfl) ?_
  refine s_iload_n d_X11_drift_32 rfl (ma 1 rfl) ?_
  refine s_icmp_ge (tgt := 57) d_X11_drift_33 (by decide) (fun c => ?_) (fun c => ?_)
  · have hV := hV.1 c
    refine s_aload_n d_X11_drift_57 rfl (ma 0 rfl) ?_
    obtain ⟨o, hV⟩ := hV
    refine f_RX11_26g rfl d_X11_drift_58 o ?_
    obtain ⟨o, hV⟩ := hV
    refine f_RX11_100g rfl d_X11_drift_61 o ?_
    obtain ⟨o, hV⟩ := hV
    refine f_RX11_103g rfl d_X11_drift_64 o ?_
    exact s_iret d_X11_drift_67 rfl rfl ⟨_, rfl, hV⟩
  · have hV := hV.2 c
    refine s_aload_n d_X11_drift_36 rfl (ma 0 rfl) ?_
    obtain ⟨o, hV⟩ := hV
    refine f_RX11_33g rfl d_X11_drift_37 o ?_
    refine s_aload_n d_X11_drift_40 rfl (ma 0 rfl) ?_
    obtain ⟨o, hV⟩ := hV
    refine f_RX11_26g rfl d_X11_drift_41 o ?_
    obtain ⟨o, hV⟩ := hV
    refine v_RX11_179 rfl (Nat.le_of_ble_eq_true rfl) d_X11_drift_44 o (Nat.le_of_ble_eq_true rfl) hV (fun h1 hV => ?_)
    refine s_aload_n d_X11_drift_47 rfl (ma 0 rfl) ?_
    obtain ⟨o, hV⟩ := hV
    refine v_RX11_216 rfl (Nat.le_of_ble_eq_true rfl) d_X11_drift_48 o (Nat.le_of_ble_eq_true rfl) hV (fun h2 hV => ?_)
    obtain ⟨o, hV⟩ := hV
    refine s_iinc (lv' := [(2, .inl (x2 + 1)), (0, .inr (.inr x0)), (1, .inl x1)]) d_X11_drift_51 (ma 2 rfl) o (Nat.le_of_ble_eq_true rfl) rfl ?_
    refine s_goto (tgt := 31) d_X11_drift_54 (by decide) ?_
    refine s_pick (lv' := [(0, .inr (.inr x0)), (1, .inl x1), (2, .inl (x2 + 1))]) [1, 2, 0] rfl ?_
    exact hP31 _ _ hV
def V_X11_drift (x0 : Nat) (x1 : Int) (h : Hp) (Q : Int → Hp → Prop) : Prop :=
  (x1 < 1 → (Q (-1000000002) h)) ∧ (¬ x1 < 1 → ((x1 ≤ 20 → (hK h x0 = 10 ∧ (hK h (hR h x0 2) = 7 ∧ ((hI h (hR h x0 2) 4 < 90000 → (Lp_X11_drift_31 x0 x1 0 h Q)) ∧ (¬ hI h (hR h x0 2) 4 < 90000 → (Q (-1000000004) h)))))) ∧ (¬ x1 ≤ 20 → (Q (-1000000002) h))))
theorem G_X11_drift {x0 : Nat} {x1 : Int} (h : Hp) (Q : Int → Hp → Prop) (hV : V_X11_drift x0 x1 h Q) : C_X11_drift x0 x1 h Q := by
  unfold V_X11_drift at hV
  show Go i_X11_drift 0 [(0, .inr (.inr x0)), (1, .inl x1)] [] h (qI Q)
  refine s_iload_n d_X11_drift_0 rfl (ma 1 rfl) ?_
  refine s_iconst d_X11_drift_1 (okn rfl) ?_
  refine s_icmp_lt (tgt := 11) d_X11_drift_2 (by decide) (fun c => ?_) (fun c => ?_)
  · have hV := hV.1 c
    refine s_ldc (n := (-1000000002)) d_X11_drift_11 k_RX11_81 (by decide) (okn rfl) ?_
    exact s_iret d_X11_drift_13 rfl rfl ⟨_, rfl, hV⟩
  · have hV := hV.2 c
    refine s_iload_n d_X11_drift_5 rfl (ma 1 rfl) ?_
    refine s_bipush d_X11_drift_6 (by decide) (okn rfl) ?_
    refine s_icmp_le (tgt := 14) d_X11_drift_8 (by decide) (fun c => ?_) (fun c => ?_)
    · have hV := hV.1 c
      refine s_aload_n d_X11_drift_14 rfl (ma 0 rfl) ?_
      obtain ⟨o, hV⟩ := hV
      refine f_RX11_26g rfl d_X11_drift_15 o ?_
      obtain ⟨o, hV⟩ := hV
      refine f_RX11_128g rfl d_X11_drift_18 o ?_
      refine s_ldc (n := 90000) d_X11_drift_21 k_RX11_172 (by decide) (okn rfl) ?_
      refine s_icmp_lt (tgt := 29) d_X11_drift_23 (by decide) (fun c => ?_) (fun c => ?_)
      · have hV := hV.1 c
        refine s_iconst d_X11_drift_29 (okn rfl) ?_
        refine s_istore_n (lv' := [(2, .inl 0), (0, .inr (.inr x0)), (1, .inl x1)]) d_X11_drift_30 rfl (Nat.le_of_ble_eq_true rfl) rfl ?_
        refine s_pick (lv' := [(0, .inr (.inr x0)), (1, .inl x1), (2, .inl 0)]) [1, 2, 0] rfl ?_
        exact GLp_X11_drift_31 _ _ _ _ _ hV
      · have hV := hV.2 c
        refine s_ldc (n := (-1000000004)) d_X11_drift_26 k_RX11_90 (by decide) (okn rfl) ?_
        exact s_iret d_X11_drift_28 rfl rfl ⟨_, rfl, hV⟩
    · have hV := hV.2 c
      refine s_ldc (n := (-1000000002)) d_X11_drift_11 k_RX11_81 (by decide) (okn rfl) ?_
      exact s_iret d_X11_drift_13 rfl rfl ⟨_, rfl, hV⟩

theorem d_X11_driftOnce_0 : decode i_X11_driftOnce.2.1 0 = .ok (.aload_n 0, 1) := by decide +kernel
theorem d_X11_driftOnce_1 : decode i_X11_driftOnce.2.1 1 = .ok (.bipush 8, 2) := by decide +kernel
theorem d_X11_driftOnce_3 : decode i_X11_driftOnce.2.1 3 = .ok (.invokevirtual 219, 3) := by decide +kernel
theorem d_X11_driftOnce_6 : decode i_X11_driftOnce.2.1 6 = .ok (.istore_n 1, 1) := by decide +kernel
theorem d_X11_driftOnce_7 : decode i_X11_driftOnce.2.1 7 = .ok (.iload_n 1, 1) := by decide +kernel
theorem d_X11_driftOnce_8 : decode i_X11_driftOnce.2.1 8 = .ok (.bipush 6, 2) := by decide +kernel
theorem d_X11_driftOnce_10 : decode i_X11_driftOnce.2.1 10 = .ok (.if_icmp .ge 45, 3) := by decide +kernel
theorem d_X11_driftOnce_13 : decode i_X11_driftOnce.2.1 13 = .ok (.iload_n 1, 1) := by decide +kernel
theorem d_X11_driftOnce_14 : decode i_X11_driftOnce.2.1 14 = .ok (.aload_n 0, 1) := by decide +kernel
theorem d_X11_driftOnce_15 : decode i_X11_driftOnce.2.1 15 = .ok (.getfield 26, 3) := by decide +kernel
theorem d_X11_driftOnce_18 : decode i_X11_driftOnce.2.1 18 = .ok (.getfield 100, 3) := by decide +kernel
theorem d_X11_driftOnce_21 : decode i_X11_driftOnce.2.1 21 = .ok (.aload_n 0, 1) := by decide +kernel
theorem d_X11_driftOnce_22 : decode i_X11_driftOnce.2.1 22 = .ok (.getfield 77, 3) := by decide +kernel
theorem d_X11_driftOnce_25 : decode i_X11_driftOnce.2.1 25 = .ok (.invokestatic 173, 3) := by decide +kernel
theorem d_X11_driftOnce_28 : decode i_X11_driftOnce.2.1 28 = .ok (.aload_n 0, 1) := by decide +kernel
theorem d_X11_driftOnce_29 : decode i_X11_driftOnce.2.1 29 = .ok (.getfield 77, 3) := by decide +kernel
theorem d_X11_driftOnce_32 : decode i_X11_driftOnce.2.1 32 = .ok (.getfield 103, 3) := by decide +kernel
theorem d_X11_driftOnce_35 : decode i_X11_driftOnce.2.1 35 = .ok (.bipush 60, 2) := by decide +kernel
theorem d_X11_driftOnce_37 : decode i_X11_driftOnce.2.1 37 = .ok (.if_icmp .gt 85, 3) := by decide +kernel
theorem d_X11_driftOnce_40 : decode i_X11_driftOnce.2.1 40 = .ok (.aload_n 0, 1) := by decide +kernel
theorem d_X11_driftOnce_41 : decode i_X11_driftOnce.2.1 41 = .ok (.getfield 26, 3) := by decide +kernel
theorem d_X11_driftOnce_44 : decode i_X11_driftOnce.2.1 44 = .ok (.iload_n 1, 1) := by decide +kernel
theorem d_X11_driftOnce_45 : decode i_X11_driftOnce.2.1 45 = .ok (.aload_n 0, 1) := by decide +kernel
theorem d_X11_driftOnce_46 : decode i_X11_driftOnce.2.1 46 = .ok (.getfield 77, 3) := by decide +kernel
theorem d_X11_driftOnce_49 : decode i_X11_driftOnce.2.1 49 = .ok (.invokevirtual 183, 3) := by decide +kernel
theorem d_X11_driftOnce_52 : decode i_X11_driftOnce.2.1 52 = .ok (.goto 70, 3) := by decide +kernel
theorem d_X11_driftOnce_55 : decode i_X11_driftOnce.2.1 55 = .ok (.iload_n 1, 1) := by decide +kernel
theorem d_X11_driftOnce_56 : decode i_X11_driftOnce.2.1 56 = .ok (.bipush 6, 2) := by decide +kernel
theorem d_X11_driftOnce_58 : decode i_X11_driftOnce.2.1 58 = .ok (.if_icmp .ne 38, 3) := by decide +kernel
theorem d_X11_driftOnce_61 : decode i_X11_driftOnce.2.1 61 = .ok (.aload_n 0, 1) := by decide +kernel
theorem d_X11_driftOnce_62 : decode i_X11_driftOnce.2.1 62 = .ok (.getfield 26, 3) := by decide +kernel
theorem d_X11_driftOnce_65 : decode i_X11_driftOnce.2.1 65 = .ok (.getfield 100, 3) := by decide +kernel
theorem d_X11_driftOnce_68 : decode i_X11_driftOnce.2.1 68 = .ok (.getfield 103, 3) := by decide +kernel
theorem d_X11_driftOnce_71 : decode i_X11_driftOnce.2.1 71 = .ok (.bipush 60, 2) := by decide +kernel
theorem d_X11_driftOnce_73 : decode i_X11_driftOnce.2.1 73 = .ok (.if_icmp .ge 49, 3) := by decide +kernel
theorem d_X11_driftOnce_76 : decode i_X11_driftOnce.2.1 76 = .ok (.aload_n 0, 1) := by decide +kernel
theorem d_X11_driftOnce_77 : decode i_X11_driftOnce.2.1 77 = .ok (.getfield 26, 3) := by decide +kernel
theorem d_X11_driftOnce_80 : decode i_X11_driftOnce.2.1 80 = .ok (.getfield 100, 3) := by decide +kernel
theorem d_X11_driftOnce_83 : decode i_X11_driftOnce.2.1 83 = .ok (.aload_n 0, 1) := by decide +kernel
theorem d_X11_driftOnce_84 : decode i_X11_driftOnce.2.1 84 = .ok (.bipush 10, 2) := by decide +kernel
theorem d_X11_driftOnce_86 : decode i_X11_driftOnce.2.1 86 = .ok (.invokevirtual 219, 3) := by decide +kernel
theorem d_X11_driftOnce_89 : decode i_X11_driftOnce.2.1 89 = .ok (.invokevirtual 200, 3) := by decide +kernel
theorem d_X11_driftOnce_92 : decode i_X11_driftOnce.2.1 92 = .ok (.pop, 1) := by decide +kernel
theorem d_X11_driftOnce_93 : decode i_X11_driftOnce.2.1 93 = .ok (.goto 29, 3) := by decide +kernel
theorem d_X11_driftOnce_96 : decode i_X11_driftOnce.2.1 96 = .ok (.aload_n 0, 1) := by decide +kernel
theorem d_X11_driftOnce_97 : decode i_X11_driftOnce.2.1 97 = .ok (.getfield 26, 3) := by decide +kernel
theorem d_X11_driftOnce_100 : decode i_X11_driftOnce.2.1 100 = .ok (.getfield 100, 3) := by decide +kernel
theorem d_X11_driftOnce_103 : decode i_X11_driftOnce.2.1 103 = .ok (.aload_n 0, 1) := by decide +kernel
theorem d_X11_driftOnce_104 : decode i_X11_driftOnce.2.1 104 = .ok (.aload_n 0, 1) := by decide +kernel
theorem d_X11_driftOnce_105 : decode i_X11_driftOnce.2.1 105 = .ok (.getfield 26, 3) := by decide +kernel
theorem d_X11_driftOnce_108 : decode i_X11_driftOnce.2.1 108 = .ok (.getfield 100, 3) := by decide +kernel
theorem d_X11_driftOnce_111 : decode i_X11_driftOnce.2.1 111 = .ok (.getfield 103, 3) := by decide +kernel
theorem d_X11_driftOnce_114 : decode i_X11_driftOnce.2.1 114 = .ok (.iconst 1, 1) := by decide +kernel
theorem d_X11_driftOnce_115 : decode i_X11_driftOnce.2.1 115 = .ok (.iadd, 1) := by decide +kernel
theorem d_X11_driftOnce_116 : decode i_X11_driftOnce.2.1 116 = .ok (.invokevirtual 219, 3) := by decide +kernel
theorem d_X11_driftOnce_119 : decode i_X11_driftOnce.2.1 119 = .ok (.invokevirtual 210, 3) := by decide +kernel
theorem d_X11_driftOnce_122 : decode i_X11_driftOnce.2.1 122 = .ok (.return_, 1) := by decide +kernel
def V_X11_driftOnce (x0 : Nat) (h : Hp) (Q : Hp → Prop) : Prop :=
  hK h x0 = 10 ∧ C_X11_draw x0 8 h (fun r2 h1 => ((6 ≤ r2 → ((r2 ≠ 6 → (hK h1 x0 = 10 ∧ (hK h1 (hR h1 x0 2) = 7 ∧ (hK h1 x0 = 10 ∧ (hK h1 (hR h1 x0 2) = 7 ∧ (hK h1 (hR h1 (hR h1 x0 2) 0) = 2 ∧ (((-2147483648 : Int) ≤ (hI h1 (hR h1 (hR h1 x0 2) 0) 1) + 1 ∧ (hI h1 (hR h1 (hR h1 x0 2) 0) 1) + 1 ≤ (2147483647 : Int)) ∧ (hK h1 x0 = 10 ∧ C_X11_draw x0 ((hI h1 (hR h1 (hR h1 x0 2) 0) 1) + 1) h1 (fun r4 h3 => (hK h3 (hR h1 (hR h1 x0 2) 0) = 2 ∧ C_X2_cut (hR h1 (hR h1 x0 2) 0) r4 h3 (fun h5 => (Q h5)))))))))))) ∧ (r2 = 6 → (hK h1 x0 = 10 ∧ (hK h1 (hR h1 x0 2) = 7 ∧ (hK h1 (hR h1 (hR h1 x0 2) 0) = 2 ∧ ((60 ≤ hI h1 (hR h1 (hR h1 x0 2) 0) 1 → (Q h1)) ∧ (¬ 60 ≤ hI h1 (hR h1 (hR h1 x0 2) 0) 1 → (hK h1 x0 = 10 ∧ (hK h1 (hR h1 x0 2) = 7 ∧ (hK h1 x0 = 10 ∧ C_X11_draw x0 10 h1 (fun r7 h6 => (hK h6 (hR h1 (hR h1 x0 2) 0) = 2 ∧ C_X2_add (hR h1 (hR h1 x0 2) 0) r7 h6 (fun r9 h8 => (Q h8))))))))))))))) ∧ (¬ 6 ≤ r2 → (hK h1 x0 = 10 ∧ (hK h1 (hR h1 x0 2) = 7 ∧ (hK h1 x0 = 10 ∧ (C_X7_say r2 (hR h1 (hR h1 x0 2) 0) (hR h1 x0 9) h1 (fun h10 => (hK h10 x0 = 10 ∧ (hK h10 (hR h10 x0 9) = 2 ∧ ((60 < hI h10 (hR h10 x0 9) 1 → (Q h10)) ∧ (¬ 60 < hI h10 (hR h10 x0 9) 1 → (hK h10 x0 = 10 ∧ (hK h10 x0 = 10 ∧ (hK h10 (hR h10 x0 2) = 7 ∧ C_X8_becomeReading (hR h10 x0 2) r2 (hR h10 x0 9) h10 (fun h11 => (Q h11)))))))))))))))))
theorem G_X11_driftOnce {x0 : Nat} (h : Hp) (Q : Hp → Prop) (hV : V_X11_driftOnce x0 h Q) : C_X11_driftOnce x0 h Q := by
  unfold V_X11_driftOnce at hV
  show Go i_X11_driftOnce 0 [(0, .inr (.inr x0))] [] h (qV Q)
  refine s_aload_n d_X11_driftOnce_0 rfl (ma 0 rfl) ?_
  refine s_bipush d_X11_driftOnce_1 (by decide) (okn rfl) ?_
  obtain ⟨o, hV⟩ := hV
  refine v_RX11_219 rfl (Nat.le_of_ble_eq_true rfl) d_X11_driftOnce_3 o (Nat.le_of_ble_eq_true rfl) hV (fun r2 h1 hV => ?_)
  refine s_istore_n (lv' := [(1, .inl r2), (0, .inr (.inr x0))]) d_X11_driftOnce_6 rfl (Nat.le_of_ble_eq_true rfl) rfl ?_
  refine s_iload_n d_X11_driftOnce_7 rfl (ma 0 rfl) ?_
  refine s_bipush d_X11_driftOnce_8 (by decide) (okn rfl) ?_
  refine s_icmp_ge (tgt := 55) d_X11_driftOnce_10 (by decide) (fun c => ?_) (fun c => ?_)
  · have hV := hV.1 c
    refine s_iload_n d_X11_driftOnce_55 rfl (ma 0 rfl) ?_
    refine s_bipush d_X11_driftOnce_56 (by decide) (okn rfl) ?_
    refine s_icmp_ne (tgt := 96) d_X11_driftOnce_58 (by decide) (fun c => ?_) (fun c => ?_)
    · have hV := hV.1 c
      refine s_aload_n d_X11_driftOnce_96 rfl (ma 1 rfl) ?_
      obtain ⟨o, hV⟩ := hV
      refine f_RX11_26g rfl d_X11_driftOnce_97 o ?_
      obtain ⟨o, hV⟩ := hV
      refine f_RX11_100g rfl d_X11_driftOnce_100 o ?_
      refine s_aload_n d_X11_driftOnce_103 rfl (ma 1 rfl) ?_
      refine s_aload_n d_X11_driftOnce_104 rfl (ma 1 rfl) ?_
      obtain ⟨o, hV⟩ := hV
      refine f_RX11_26g rfl d_X11_driftOnce_105 o ?_
      obtain ⟨o, hV⟩ := hV
      refine f_RX11_100g rfl d_X11_driftOnce_108 o ?_
      obtain ⟨o, hV⟩ := hV
      refine f_RX11_103g rfl d_X11_driftOnce_111 o ?_
      refine s_iconst d_X11_driftOnce_114 (okn rfl) ?_
      obtain ⟨o, hV⟩ := hV
      refine s_iadd d_X11_driftOnce_115 o ?_
      obtain ⟨o, hV⟩ := hV
      refine v_RX11_219 rfl (Nat.le_of_ble_eq_true rfl) d_X11_driftOnce_116 o (Nat.le_of_ble_eq_true rfl) hV (fun r4 h3 hV => ?_)
      obtain ⟨o, hV⟩ := hV
      refine v_RX11_210 rfl (Nat.le_of_ble_eq_true rfl) d_X11_driftOnce_119 o (Nat.le_of_ble_eq_true rfl) hV (fun h5 hV => ?_)
      exact s_vret d_X11_driftOnce_122 rfl ⟨rfl, hV⟩
    · have hV := hV.2 c
      refine s_aload_n d_X11_driftOnce_61 rfl (ma 1 rfl) ?_
      obtain ⟨o, hV⟩ := hV
      refine f_RX11_26g rfl d_X11_driftOnce_62 o ?_
      obtain ⟨o, hV⟩ := hV
      refine f_RX11_100g rfl d_X11_driftOnce_65 o ?_
      obtain ⟨o, hV⟩ := hV
      refine f_RX11_103g rfl d_X11_driftOnce_68 o ?_
      refine s_bipush d_X11_driftOnce_71 (by decide) (okn rfl) ?_
      refine s_icmp_ge (tgt := 122) d_X11_driftOnce_73 (by decide) (fun c => ?_) (fun c => ?_)
      · have hV := hV.1 c
        exact s_vret d_X11_driftOnce_122 rfl ⟨rfl, hV⟩
      · have hV := hV.2 c
        refine s_aload_n d_X11_driftOnce_76 rfl (ma 1 rfl) ?_
        obtain ⟨o, hV⟩ := hV
        refine f_RX11_26g rfl d_X11_driftOnce_77 o ?_
        obtain ⟨o, hV⟩ := hV
        refine f_RX11_100g rfl d_X11_driftOnce_80 o ?_
        refine s_aload_n d_X11_driftOnce_83 rfl (ma 1 rfl) ?_
        refine s_bipush d_X11_driftOnce_84 (by decide) (okn rfl) ?_
        obtain ⟨o, hV⟩ := hV
        refine v_RX11_219 rfl (Nat.le_of_ble_eq_true rfl) d_X11_driftOnce_86 o (Nat.le_of_ble_eq_true rfl) hV (fun r7 h6 hV => ?_)
        obtain ⟨o, hV⟩ := hV
        refine v_RX11_200 rfl (Nat.le_of_ble_eq_true rfl) d_X11_driftOnce_89 o (Nat.le_of_ble_eq_true rfl) hV (fun r9 h8 hV => ?_)
        refine s_pop d_X11_driftOnce_92 rfl ?_
        refine s_goto (tgt := 122) d_X11_driftOnce_93 (by decide) ?_
        exact s_vret d_X11_driftOnce_122 rfl ⟨rfl, hV⟩
  · have hV := hV.2 c
    refine s_iload_n d_X11_driftOnce_13 rfl (ma 0 rfl) ?_
    refine s_aload_n d_X11_driftOnce_14 rfl (ma 1 rfl) ?_
    obtain ⟨o, hV⟩ := hV
    refine f_RX11_26g rfl d_X11_driftOnce_15 o ?_
    obtain ⟨o, hV⟩ := hV
    refine f_RX11_100g rfl d_X11_driftOnce_18 o ?_
    refine s_aload_n d_X11_driftOnce_21 rfl (ma 1 rfl) ?_
    obtain ⟨o, hV⟩ := hV
    refine f_RX11_77g rfl d_X11_driftOnce_22 o ?_
    refine v_RX11_173 rfl (Nat.le_of_ble_eq_true rfl) d_X11_driftOnce_25 (Nat.le_of_ble_eq_true rfl) hV (fun h10 hV => ?_)
    refine s_aload_n d_X11_driftOnce_28 rfl (ma 1 rfl) ?_
    obtain ⟨o, hV⟩ := hV
    refine f_RX11_77g rfl d_X11_driftOnce_29 o ?_
    obtain ⟨o, hV⟩ := hV
    refine f_RX11_103g rfl d_X11_driftOnce_32 o ?_
    refine s_bipush d_X11_driftOnce_35 (by decide) (okn rfl) ?_
    refine s_icmp_gt (tgt := 122) d_X11_driftOnce_37 (by decide) (fun c => ?_) (fun c => ?_)
    · have hV := hV.1 c
      exact s_vret d_X11_driftOnce_122 rfl ⟨rfl, hV⟩
    · have hV := hV.2 c
      refine s_aload_n d_X11_driftOnce_40 rfl (ma 1 rfl) ?_
      obtain ⟨o, hV⟩ := hV
      refine f_RX11_26g rfl d_X11_driftOnce_41 o ?_
      refine s_iload_n d_X11_driftOnce_44 rfl (ma 0 rfl) ?_
      refine s_aload_n d_X11_driftOnce_45 rfl (ma 1 rfl) ?_
      obtain ⟨o, hV⟩ := hV
      refine f_RX11_77g rfl d_X11_driftOnce_46 o ?_
      obtain ⟨o, hV⟩ := hV
      refine v_RX11_183 rfl (Nat.le_of_ble_eq_true rfl) d_X11_driftOnce_49 o (Nat.le_of_ble_eq_true rfl) hV (fun h11 hV => ?_)
      refine s_goto (tgt := 122) d_X11_driftOnce_52 (by decide) ?_
      exact s_vret d_X11_driftOnce_122 rfl ⟨rfl, hV⟩

theorem d_X11_draw_0 : decode i_X11_draw.2.1 0 = .ok (.aload_n 0, 1) := by decide +kernel
theorem d_X11_draw_1 : decode i_X11_draw.2.1 1 = .ok (.aload_n 0, 1) := by decide +kernel
theorem d_X11_draw_2 : decode i_X11_draw.2.1 2 = .ok (.getfield 222, 3) := by decide +kernel
theorem d_X11_draw_5 : decode i_X11_draw.2.1 5 = .ok (.i2l, 1) := by decide +kernel
theorem d_X11_draw_6 : decode i_X11_draw.2.1 6 = .ok (.ldc2_w 225, 3) := by decide +kernel
theorem d_X11_draw_9 : decode i_X11_draw.2.1 9 = .ok (.lmul, 1) := by decide +kernel
theorem d_X11_draw_10 : decode i_X11_draw.2.1 10 = .ok (.ldc2_w 227, 3) := by decide +kernel
theorem d_X11_draw_13 : decode i_X11_draw.2.1 13 = .ok (.ladd, 1) := by decide +kernel
theorem d_X11_draw_14 : decode i_X11_draw.2.1 14 = .ok (.ldc2_w 229, 3) := by decide +kernel
theorem d_X11_draw_17 : decode i_X11_draw.2.1 17 = .ok (.land, 1) := by decide +kernel
theorem d_X11_draw_18 : decode i_X11_draw.2.1 18 = .ok (.l2i, 1) := by decide +kernel
theorem d_X11_draw_19 : decode i_X11_draw.2.1 19 = .ok (.putfield 222, 3) := by decide +kernel
theorem d_X11_draw_22 : decode i_X11_draw.2.1 22 = .ok (.iload_n 1, 1) := by decide +kernel
theorem d_X11_draw_23 : decode i_X11_draw.2.1 23 = .ok (.ifCond .le 15, 3) := by decide +kernel
theorem d_X11_draw_26 : decode i_X11_draw.2.1 26 = .ok (.aload_n 0, 1) := by decide +kernel
theorem d_X11_draw_27 : decode i_X11_draw.2.1 27 = .ok (.getfield 222, 3) := by decide +kernel
theorem d_X11_draw_30 : decode i_X11_draw.2.1 30 = .ok (.ldc 231, 2) := by decide +kernel
theorem d_X11_draw_32 : decode i_X11_draw.2.1 32 = .ok (.idiv, 1) := by decide +kernel
theorem d_X11_draw_33 : decode i_X11_draw.2.1 33 = .ok (.iload_n 1, 1) := by decide +kernel
theorem d_X11_draw_34 : decode i_X11_draw.2.1 34 = .ok (.irem, 1) := by decide +kernel
theorem d_X11_draw_35 : decode i_X11_draw.2.1 35 = .ok (.goto 4, 3) := by decide +kernel
theorem d_X11_draw_38 : decode i_X11_draw.2.1 38 = .ok (.iconst 0, 1) := by decide +kernel
theorem d_X11_draw_39 : decode i_X11_draw.2.1 39 = .ok (.ireturn, 1) := by decide +kernel
def V_X11_draw (x0 : Nat) (x1 : Int) (h : Hp) (Q : Int → Hp → Prop) : Prop :=
  hK h x0 = 10 ∧ (((-9223372036854775808 : Int) ≤ (hI h x0 11) * 1103515245 ∧ (hI h x0 11) * 1103515245 ≤ (9223372036854775807 : Int)) ∧ (((-9223372036854775808 : Int) ≤ ((hI h x0 11) * 1103515245) + 12345 ∧ ((hI h x0 11) * 1103515245) + 12345 ≤ (9223372036854775807 : Int)) ∧ (((-2147483648 : Int) ≤ zLand (((hI h x0 11) * 1103515245) + 12345) 2147483647 ∧ zLand (((hI h x0 11) * 1103515245) + 12345) 2147483647 ≤ (2147483647 : Int)) ∧ (hK h x0 = 10 ∧ ∀ h1 : Hp, h1 = wI h x0 11 (zLand (((hI h x0 11) * 1103515245) + 12345) 2147483647) → ((x1 ≤ 0 → (Q 0 h1)) ∧ (¬ x1 ≤ 0 → (hK h1 x0 = 10 ∧ (((0 : Int) ≤ hI h1 x0 11 ∧ (0 : Int) < 65536) ∧ (((0 : Int) ≤ (hI h1 x0 11) / 65536 ∧ (0 : Int) < x1) ∧ (Q (((hI h1 x0 11) / 65536) % x1) h1))))))))))
theorem G_X11_draw {x0 : Nat} {x1 : Int} (h : Hp) (Q : Int → Hp → Prop) (hV : V_X11_draw x0 x1 h Q) : C_X11_draw x0 x1 h Q := by
  unfold V_X11_draw at hV
  show Go i_X11_draw 0 [(0, .inr (.inr x0)), (1, .inl x1)] [] h (qI Q)
  refine s_aload_n d_X11_draw_0 rfl (ma 0 rfl) ?_
  refine s_aload_n d_X11_draw_1 rfl (ma 0 rfl) ?_
  obtain ⟨o, hV⟩ := hV
  refine f_RX11_222g rfl d_X11_draw_2 o ?_
  refine s_i2l d_X11_draw_5 ?_
  refine s_ldc2 (n := 1103515245) d_X11_draw_6 k_RX11_225 (by decide) (okln rfl) ?_
  obtain ⟨o, hV⟩ := hV
  refine s_lmul d_X11_draw_9 o ?_
  refine s_ldc2 (n := 12345) d_X11_draw_10 k_RX11_227 (by decide) (okln rfl) ?_
  obtain ⟨o, hV⟩ := hV
  refine s_ladd d_X11_draw_13 o ?_
  refine s_ldc2 (n := 2147483647) d_X11_draw_14 k_RX11_229 (by decide) (okln rfl) ?_
  refine s_land d_X11_draw_17 ?_
  obtain ⟨o, hV⟩ := hV
  refine s_l2i d_X11_draw_18 o ?_
  obtain ⟨o, hV⟩ := hV
  refine f_RX11_222p rfl d_X11_draw_19 o (fun h1 eh1 => ?_)
  have hV := hV h1 eh1
  refine s_iload_n d_X11_draw_22 rfl (ma 1 rfl) ?_
  refine s_if_le (tgt := 38) d_X11_draw_23 (by decide) (fun c => ?_) (fun c => ?_)
  · have hV := hV.1 c
    refine s_iconst d_X11_draw_38 (okn rfl) ?_
    exact s_iret d_X11_draw_39 rfl rfl ⟨_, rfl, hV⟩
  · have hV := hV.2 c
    refine s_aload_n d_X11_draw_26 rfl (ma 0 rfl) ?_
    obtain ⟨o, hV⟩ := hV
    refine f_RX11_222g rfl d_X11_draw_27 o ?_
    refine s_ldc (n := 65536) d_X11_draw_30 k_RX11_231 (by decide) (okn rfl) ?_
    obtain ⟨o, hV⟩ := hV
    refine s_idiv d_X11_draw_32 o.1 o.2 ?_
    refine s_iload_n d_X11_draw_33 rfl (ma 1 rfl) ?_
    obtain ⟨o, hV⟩ := hV
    refine s_irem d_X11_draw_34 o.1 o.2 ?_
    refine s_goto (tgt := 39) d_X11_draw_35 (by decide) ?_
    exact s_iret d_X11_draw_39 rfl rfl ⟨_, rfl, hV⟩

theorem d_X11_undo_0 : decode i_X11_undo.2.1 0 = .ok (.iload_n 1, 1) := by decide +kernel
theorem d_X11_undo_1 : decode i_X11_undo.2.1 1 = .ok (.iconst 1, 1) := by decide +kernel
theorem d_X11_undo_2 : decode i_X11_undo.2.1 2 = .ok (.if_icmp .lt 9, 3) := by decide +kernel
theorem d_X11_undo_5 : decode i_X11_undo.2.1 5 = .ok (.iload_n 1, 1) := by decide +kernel
theorem d_X11_undo_6 : decode i_X11_undo.2.1 6 = .ok (.bipush 30, 2) := by decide +kernel
theorem d_X11_undo_8 : decode i_X11_undo.2.1 8 = .ok (.if_icmp .le 6, 3) := by decide +kernel
theorem d_X11_undo_11 : decode i_X11_undo.2.1 11 = .ok (.ldc 81, 2) := by decide +kernel
theorem d_X11_undo_13 : decode i_X11_undo.2.1 13 = .ok (.ireturn, 1) := by decide +kernel
theorem d_X11_undo_14 : decode i_X11_undo.2.1 14 = .ok (.iload_n 1, 1) := by decide +kernel
theorem d_X11_undo_15 : decode i_X11_undo.2.1 15 = .ok (.aload_n 0, 1) := by decide +kernel
theorem d_X11_undo_16 : decode i_X11_undo.2.1 16 = .ok (.getfield 33, 3) := by decide +kernel
theorem d_X11_undo_19 : decode i_X11_undo.2.1 19 = .ok (.getfield 155, 3) := by decide +kernel
theorem d_X11_undo_22 : decode i_X11_undo.2.1 22 = .ok (.if_icmp .le 6, 3) := by decide +kernel
theorem d_X11_undo_25 : decode i_X11_undo.2.1 25 = .ok (.ldc 190, 2) := by decide +kernel
theorem d_X11_undo_27 : decode i_X11_undo.2.1 27 = .ok (.ireturn, 1) := by decide +kernel
theorem d_X11_undo_28 : decode i_X11_undo.2.1 28 = .ok (.aload_n 0, 1) := by decide +kernel
theorem d_X11_undo_29 : decode i_X11_undo.2.1 29 = .ok (.getfield 33, 3) := by decide +kernel
theorem d_X11_undo_32 : decode i_X11_undo.2.1 32 = .ok (.iload_n 1, 1) := by decide +kernel
theorem d_X11_undo_33 : decode i_X11_undo.2.1 33 = .ok (.aload_n 0, 1) := by decide +kernel
theorem d_X11_undo_34 : decode i_X11_undo.2.1 34 = .ok (.getfield 26, 3) := by decide +kernel
theorem d_X11_undo_37 : decode i_X11_undo.2.1 37 = .ok (.invokevirtual 232, 3) := by decide +kernel
theorem d_X11_undo_40 : decode i_X11_undo.2.1 40 = .ok (.aload_n 0, 1) := by decide +kernel
theorem d_X11_undo_41 : decode i_X11_undo.2.1 41 = .ok (.getfield 26, 3) := by decide +kernel
theorem d_X11_undo_44 : decode i_X11_undo.2.1 44 = .ok (.getfield 100, 3) := by decide +kernel
theorem d_X11_undo_47 : decode i_X11_undo.2.1 47 = .ok (.getfield 103, 3) := by decide +kernel
theorem d_X11_undo_50 : decode i_X11_undo.2.1 50 = .ok (.ireturn, 1) := by decide +kernel
def V_X11_undo (x0 : Nat) (x1 : Int) (h : Hp) (Q : Int → Hp → Prop) : Prop :=
  (x1 < 1 → (Q (-1000000002) h)) ∧ (¬ x1 < 1 → ((x1 ≤ 30 → (hK h x0 = 10 ∧ (hK h (hR h x0 3) = 6 ∧ ((x1 ≤ hI h (hR h x0 3) 2 → (hK h x0 = 10 ∧ (hK h x0 = 10 ∧ (hK h (hR h x0 3) = 6 ∧ C_X6_restore (hR h x0 3) x1 (hR h x0 2) h (fun h1 => (hK h1 x0 = 10 ∧ (hK h1 (hR h1 x0 2) = 7 ∧ (hK h1 (hR h1 (hR h1 x0 2) 0) = 2 ∧ (Q (hI h1 (hR h1 (hR h1 x0 2) 0) 1) h1))))))))) ∧ (¬ x1 ≤ hI h (hR h x0 3) 2 → (Q (-1000000003) h)))))) ∧ (¬ x1 ≤ 30 → (Q (-1000000002) h))))
theorem G_X11_undo {x0 : Nat} {x1 : Int} (h : Hp) (Q : Int → Hp → Prop) (hV : V_X11_undo x0 x1 h Q) : C_X11_undo x0 x1 h Q := by
  unfold V_X11_undo at hV
  show Go i_X11_undo 0 [(0, .inr (.inr x0)), (1, .inl x1)] [] h (qI Q)
  refine s_iload_n d_X11_undo_0 rfl (ma 1 rfl) ?_
  refine s_iconst d_X11_undo_1 (okn rfl) ?_
  refine s_icmp_lt (tgt := 11) d_X11_undo_2 (by decide) (fun c => ?_) (fun c => ?_)
  · have hV := hV.1 c
    refine s_ldc (n := (-1000000002)) d_X11_undo_11 k_RX11_81 (by decide) (okn rfl) ?_
    exact s_iret d_X11_undo_13 rfl rfl ⟨_, rfl, hV⟩
  · have hV := hV.2 c
    refine s_iload_n d_X11_undo_5 rfl (ma 1 rfl) ?_
    refine s_bipush d_X11_undo_6 (by decide) (okn rfl) ?_
    refine s_icmp_le (tgt := 14) d_X11_undo_8 (by decide) (fun c => ?_) (fun c => ?_)
    · have hV := hV.1 c
      refine s_iload_n d_X11_undo_14 rfl (ma 1 rfl) ?_
      refine s_aload_n d_X11_undo_15 rfl (ma 0 rfl) ?_
      obtain ⟨o, hV⟩ := hV
      refine f_RX11_33g rfl d_X11_undo_16 o ?_
      obtain ⟨o, hV⟩ := hV
      refine f_RX11_155g rfl d_X11_undo_19 o ?_
      refine s_icmp_le (tgt := 28) d_X11_undo_22 (by decide) (fun c => ?_) (fun c => ?_)
      · have hV := hV.1 c
        refine s_aload_n d_X11_undo_28 rfl (ma 0 rfl) ?_
        obtain ⟨o, hV⟩ := hV
        refine f_RX11_33g rfl d_X11_undo_29 o ?_
        refine s_iload_n d_X11_undo_32 rfl (ma 1 rfl) ?_
        refine s_aload_n d_X11_undo_33 rfl (ma 0 rfl) ?_
        obtain ⟨o, hV⟩ := hV
        refine f_RX11_26g rfl d_X11_undo_34 o ?_
        obtain ⟨o, hV⟩ := hV
        refine v_RX11_232 rfl (Nat.le_of_ble_eq_true rfl) d_X11_undo_37 o (Nat.le_of_ble_eq_true rfl) hV (fun h1 hV => ?_)
        refine s_aload_n d_X11_undo_40 rfl (ma 0 rfl) ?_
        obtain ⟨o, hV⟩ := hV
        refine f_RX11_26g rfl d_X11_undo_41 o ?_
        obtain ⟨o, hV⟩ := hV
        refine f_RX11_100g rfl d_X11_undo_44 o ?_
        obtain ⟨o, hV⟩ := hV
        refine f_RX11_103g rfl d_X11_undo_47 o ?_
        exact s_iret d_X11_undo_50 rfl rfl ⟨_, rfl, hV⟩
      · have hV := hV.2 c
        refine s_ldc (n := (-1000000003)) d_X11_undo_25 k_RX11_190 (by decide) (okn rfl) ?_
        exact s_iret d_X11_undo_27 rfl rfl ⟨_, rfl, hV⟩
    · have hV := hV.2 c
      refine s_ldc (n := (-1000000002)) d_X11_undo_11 k_RX11_81 (by decide) (okn rfl) ?_
      exact s_iret d_X11_undo_13 rfl rfl ⟨_, rfl, hV⟩

theorem d_X11_length_0 : decode i_X11_length.2.1 0 = .ok (.iload_n 1, 1) := by decide +kernel
theorem d_X11_length_1 : decode i_X11_length.2.1 1 = .ok (.iload_n 2, 1) := by decide +kernel
theorem d_X11_length_2 : decode i_X11_length.2.1 2 = .ok (.invokestatic 236, 3) := by decide +kernel
theorem d_X11_length_5 : decode i_X11_length.2.1 5 = .ok (.ifCond .ne 6, 3) := by decide +kernel
theorem d_X11_length_8 : decode i_X11_length.2.1 8 = .ok (.ldc 81, 2) := by decide +kernel
theorem d_X11_length_10 : decode i_X11_length.2.1 10 = .ok (.ireturn, 1) := by decide +kernel
theorem d_X11_length_11 : decode i_X11_length.2.1 11 = .ok (.aload_n 0, 1) := by decide +kernel
theorem d_X11_length_12 : decode i_X11_length.2.1 12 = .ok (.getfield 61, 3) := by decide +kernel
theorem d_X11_length_15 : decode i_X11_length.2.1 15 = .ok (.iload_n 1, 1) := by decide +kernel
theorem d_X11_length_16 : decode i_X11_length.2.1 16 = .ok (.iload_n 2, 1) := by decide +kernel
theorem d_X11_length_17 : decode i_X11_length.2.1 17 = .ok (.aload_n 0, 1) := by decide +kernel
theorem d_X11_length_18 : decode i_X11_length.2.1 18 = .ok (.getfield 26, 3) := by decide +kernel
theorem d_X11_length_21 : decode i_X11_length.2.1 21 = .ok (.getfield 100, 3) := by decide +kernel
theorem d_X11_length_24 : decode i_X11_length.2.1 24 = .ok (.invokevirtual 240, 3) := by decide +kernel
theorem d_X11_length_27 : decode i_X11_length.2.1 27 = .ok (.getfield 103, 3) := by decide +kernel
theorem d_X11_length_30 : decode i_X11_length.2.1 30 = .ok (.ireturn, 1) := by decide +kernel
def V_X11_length (x0 : Nat) (x1 : Int) (x2 : Int) (h : Hp) (Q : Int → Hp → Prop) : Prop :=
  C_X11_isTried x1 x2 h (fun r2 h1 => ((r2 ≠ 0 → (hK h1 x0 = 10 ∧ (hK h1 x0 = 10 ∧ (hK h1 (hR h1 x0 2) = 7 ∧ (hK h1 (hR h1 x0 7) = 8 ∧ C_X9_readOn (hR h1 x0 7) x1 x2 (hR h1 (hR h1 x0 2) 0) h1 (fun r4 h3 => (hK h3 r4 = 2 ∧ (Q (hI h3 r4 1) h3)))))))) ∧ (r2 = 0 → (Q (-1000000002) h1))))
theorem G_X11_length {x0 : Nat} {x1 : Int} {x2 : Int} (h : Hp) (Q : Int → Hp → Prop) (hV : V_X11_length x0 x1 x2 h Q) : C_X11_length x0 x1 x2 h Q := by
  unfold V_X11_length at hV
  show Go i_X11_length 0 [(0, .inr (.inr x0)), (1, .inl x1), (2, .inl x2)] [] h (qI Q)
  refine s_iload_n d_X11_length_0 rfl (ma 1 rfl) ?_
  refine s_iload_n d_X11_length_1 rfl (ma 2 rfl) ?_
  refine v_RX11_236 rfl (Nat.le_of_ble_eq_true rfl) d_X11_length_2 (Nat.le_of_ble_eq_true rfl) hV (fun r2 h1 hV => ?_)
  refine s_if_ne (tgt := 11) d_X11_length_5 (by decide) (fun c => ?_) (fun c => ?_)
  · have hV := hV.1 c
    refine s_aload_n d_X11_length_11 rfl (ma 0 rfl) ?_
    obtain ⟨o, hV⟩ := hV
    refine f_RX11_61g rfl d_X11_length_12 o ?_
    refine s_iload_n d_X11_length_15 rfl (ma 1 rfl) ?_
    refine s_iload_n d_X11_length_16 rfl (ma 2 rfl) ?_
    refine s_aload_n d_X11_length_17 rfl (ma 0 rfl) ?_
    obtain ⟨o, hV⟩ := hV
    refine f_RX11_26g rfl d_X11_length_18 o ?_
    obtain ⟨o, hV⟩ := hV
    refine f_RX11_100g rfl d_X11_length_21 o ?_
    obtain ⟨o, hV⟩ := hV
    refine v_RX11_240 rfl (Nat.le_of_ble_eq_true rfl) d_X11_length_24 o (Nat.le_of_ble_eq_true rfl) hV (fun r4 h3 hV => ?_)
    obtain ⟨o, hV⟩ := hV
    refine f_RX11_103g rfl d_X11_length_27 o ?_
    exact s_iret d_X11_length_30 rfl rfl ⟨_, rfl, hV⟩
  · have hV := hV.2 c
    refine s_ldc (n := (-1000000002)) d_X11_length_8 k_RX11_81 (by decide) (okn rfl) ?_
    exact s_iret d_X11_length_10 rfl rfl ⟨_, rfl, hV⟩

theorem d_X11_figure_0 : decode i_X11_figure.2.1 0 = .ok (.iload_n 1, 1) := by decide +kernel
theorem d_X11_figure_1 : decode i_X11_figure.2.1 1 = .ok (.iload_n 2, 1) := by decide +kernel
theorem d_X11_figure_2 : decode i_X11_figure.2.1 2 = .ok (.invokestatic 236, 3) := by decide +kernel
theorem d_X11_figure_5 : decode i_X11_figure.2.1 5 = .ok (.ifCond .eq 14, 3) := by decide +kernel
theorem d_X11_figure_8 : decode i_X11_figure.2.1 8 = .ok (.iload_n 3, 1) := by decide +kernel
theorem d_X11_figure_9 : decode i_X11_figure.2.1 9 = .ok (.ifCond .lt 10, 3) := by decide +kernel
theorem d_X11_figure_12 : decode i_X11_figure.2.1 12 = .ok (.iload_n 3, 1) := by decide +kernel
theorem d_X11_figure_13 : decode i_X11_figure.2.1 13 = .ok (.sipush 15360, 3) := by decide +kernel
theorem d_X11_figure_16 : decode i_X11_figure.2.1 16 = .ok (.if_icmp .lt 6, 3) := by decide +kernel
theorem d_X11_figure_19 : decode i_X11_figure.2.1 19 = .ok (.ldc 81, 2) := by decide +kernel
theorem d_X11_figure_21 : decode i_X11_figure.2.1 21 = .ok (.ireturn, 1) := by decide +kernel
theorem d_X11_figure_22 : decode i_X11_figure.2.1 22 = .ok (.aload_n 0, 1) := by decide +kernel
theorem d_X11_figure_23 : decode i_X11_figure.2.1 23 = .ok (.getfield 61, 3) := by decide +kernel
theorem d_X11_figure_26 : decode i_X11_figure.2.1 26 = .ok (.iload_n 1, 1) := by decide +kernel
theorem d_X11_figure_27 : decode i_X11_figure.2.1 27 = .ok (.iload_n 2, 1) := by decide +kernel
theorem d_X11_figure_28 : decode i_X11_figure.2.1 28 = .ok (.aload_n 0, 1) := by decide +kernel
theorem d_X11_figure_29 : decode i_X11_figure.2.1 29 = .ok (.getfield 26, 3) := by decide +kernel
theorem d_X11_figure_32 : decode i_X11_figure.2.1 32 = .ok (.getfield 100, 3) := by decide +kernel
theorem d_X11_figure_35 : decode i_X11_figure.2.1 35 = .ok (.invokevirtual 240, 3) := by decide +kernel
theorem d_X11_figure_38 : decode i_X11_figure.2.1 38 = .ok (.iload_n 3, 1) := by decide +kernel
theorem d_X11_figure_39 : decode i_X11_figure.2.1 39 = .ok (.invokevirtual 144, 3) := by decide +kernel
theorem d_X11_figure_42 : decode i_X11_figure.2.1 42 = .ok (.ireturn, 1) := by decide +kernel
def V_X11_figure (x0 : Nat) (x1 : Int) (x2 : Int) (x3 : Int) (h : Hp) (Q : Int → Hp → Prop) : Prop :=
  C_X11_isTried x1 x2 h (fun r2 h1 => ((r2 = 0 → (Q (-1000000002) h1)) ∧ (¬ r2 = 0 → ((x3 < 0 → (Q (-1000000002) h1)) ∧ (¬ x3 < 0 → ((x3 < 15360 → (hK h1 x0 = 10 ∧ (hK h1 x0 = 10 ∧ (hK h1 (hR h1 x0 2) = 7 ∧ (hK h1 (hR h1 x0 7) = 8 ∧ C_X9_readOn (hR h1 x0 7) x1 x2 (hR h1 (hR h1 x0 2) 0) h1 (fun r4 h3 => (hK h3 r4 = 2 ∧ C_X2_get r4 x3 h3 (fun r6 h5 => (Q r6 h5))))))))) ∧ (¬ x3 < 15360 → (Q (-1000000002) h1))))))))
theorem G_X11_figure {x0 : Nat} {x1 : Int} {x2 : Int} {x3 : Int} (h : Hp) (Q : Int → Hp → Prop) (hV : V_X11_figure x0 x1 x2 x3 h Q) : C_X11_figure x0 x1 x2 x3 h Q := by
  unfold V_X11_figure at hV
  show Go i_X11_figure 0 [(0, .inr (.inr x0)), (1, .inl x1), (2, .inl x2), (3, .inl x3)] [] h (qI Q)
  refine s_iload_n d_X11_figure_0 rfl (ma 1 rfl) ?_
  refine s_iload_n d_X11_figure_1 rfl (ma 2 rfl) ?_
  refine v_RX11_236 rfl (Nat.le_of_ble_eq_true rfl) d_X11_figure_2 (Nat.le_of_ble_eq_true rfl) hV (fun r2 h1 hV => ?_)
  refine s_if_eq (tgt := 19) d_X11_figure_5 (by decide) (fun c => ?_) (fun c => ?_)
  · have hV := hV.1 c
    refine s_ldc (n := (-1000000002)) d_X11_figure_19 k_RX11_81 (by decide) (okn rfl) ?_
    exact s_iret d_X11_figure_21 rfl rfl ⟨_, rfl, hV⟩
  · have hV := hV.2 c
    refine s_iload_n d_X11_figure_8 rfl (ma 3 rfl) ?_
    refine s_if_lt (tgt := 19) d_X11_figure_9 (by decide) (fun c => ?_) (fun c => ?_)
    · have hV := hV.1 c
      refine s_ldc (n := (-1000000002)) d_X11_figure_19 k_RX11_81 (by decide) (okn rfl) ?_
      exact s_iret d_X11_figure_21 rfl rfl ⟨_, rfl, hV⟩
    · have hV := hV.2 c
      refine s_iload_n d_X11_figure_12 rfl (ma 3 rfl) ?_
      refine s_sipush d_X11_figure_13 (by decide) (okn rfl) ?_
      refine s_icmp_lt (tgt := 22) d_X11_figure_16 (by decide) (fun c => ?_) (fun c => ?_)
      · have hV := hV.1 c
        refine s_aload_n d_X11_figure_22 rfl (ma 0 rfl) ?_
        obtain ⟨o, hV⟩ := hV
        refine f_RX11_61g rfl d_X11_figure_23 o ?_
        refine s_iload_n d_X11_figure_26 rfl (ma 1 rfl) ?_
        refine s_iload_n d_X11_figure_27 rfl (ma 2 rfl) ?_
        refine s_aload_n d_X11_figure_28 rfl (ma 0 rfl) ?_
        obtain ⟨o, hV⟩ := hV
        refine f_RX11_26g rfl d_X11_figure_29 o ?_
        obtain ⟨o, hV⟩ := hV
        refine f_RX11_100g rfl d_X11_figure_32 o ?_
        obtain ⟨o, hV⟩ := hV
        refine v_RX11_240 rfl (Nat.le_of_ble_eq_true rfl) d_X11_figure_35 o (Nat.le_of_ble_eq_true rfl) hV (fun r4 h3 hV => ?_)
        refine s_iload_n d_X11_figure_38 rfl (ma 3 rfl) ?_
        obtain ⟨o, hV⟩ := hV
        refine v_RX11_144 rfl (Nat.le_of_ble_eq_true rfl) d_X11_figure_39 o (Nat.le_of_ble_eq_true rfl) hV (fun r6 h5 hV => ?_)
        exact s_iret d_X11_figure_42 rfl rfl ⟨_, rfl, hV⟩
      · have hV := hV.2 c
        refine s_ldc (n := (-1000000002)) d_X11_figure_19 k_RX11_81 (by decide) (okn rfl) ?_
        exact s_iret d_X11_figure_21 rfl rfl ⟨_, rfl, hV⟩

theorem d_X11_often_0 : decode i_X11_often.2.1 0 = .ok (.iload_n 1, 1) := by decide +kernel
theorem d_X11_often_1 : decode i_X11_often.2.1 1 = .ok (.iload_n 2, 1) := by decide +kernel
theorem d_X11_often_2 : decode i_X11_often.2.1 2 = .ok (.invokestatic 236, 3) := by decide +kernel
theorem d_X11_often_5 : decode i_X11_often.2.1 5 = .ok (.ifCond .eq 10, 3) := by decide +kernel
theorem d_X11_often_8 : decode i_X11_often.2.1 8 = .ok (.iload_n 3, 1) := by decide +kernel
theorem d_X11_often_9 : decode i_X11_often.2.1 9 = .ok (.invokestatic 197, 3) := by decide +kernel
theorem d_X11_often_12 : decode i_X11_often.2.1 12 = .ok (.ifCond .ne 6, 3) := by decide +kernel
theorem d_X11_often_15 : decode i_X11_often.2.1 15 = .ok (.ldc 81, 2) := by decide +kernel
theorem d_X11_often_17 : decode i_X11_often.2.1 17 = .ok (.ireturn, 1) := by decide +kernel
theorem d_X11_often_18 : decode i_X11_often.2.1 18 = .ok (.aload_n 0, 1) := by decide +kernel
theorem d_X11_often_19 : decode i_X11_often.2.1 19 = .ok (.getfield 61, 3) := by decide +kernel
theorem d_X11_often_22 : decode i_X11_often.2.1 22 = .ok (.iload_n 1, 1) := by decide +kernel
theorem d_X11_often_23 : decode i_X11_often.2.1 23 = .ok (.iload_n 2, 1) := by decide +kernel
theorem d_X11_often_24 : decode i_X11_often.2.1 24 = .ok (.aload_n 0, 1) := by decide +kernel
theorem d_X11_often_25 : decode i_X11_often.2.1 25 = .ok (.getfield 26, 3) := by decide +kernel
theorem d_X11_often_28 : decode i_X11_often.2.1 28 = .ok (.getfield 100, 3) := by decide +kernel
theorem d_X11_often_31 : decode i_X11_often.2.1 31 = .ok (.invokevirtual 240, 3) := by decide +kernel
theorem d_X11_often_34 : decode i_X11_often.2.1 34 = .ok (.iload_n 3, 1) := by decide +kernel
theorem d_X11_often_35 : decode i_X11_often.2.1 35 = .ok (.invokevirtual 244, 3) := by decide +kernel
theorem d_X11_often_38 : decode i_X11_often.2.1 38 = .ok (.ireturn, 1) := by decide +kernel
def V_X11_often (x0 : Nat) (x1 : Int) (x2 : Int) (x3 : Int) (h : Hp) (Q : Int → Hp → Prop) : Prop :=
  C_X11_isTried x1 x2 h (fun r2 h1 => ((r2 = 0 → (Q (-1000000002) h1)) ∧ (¬ r2 = 0 → (C_X11_isFigure x3 h1 (fun r4 h3 => ((r4 ≠ 0 → (hK h3 x0 = 10 ∧ (hK h3 x0 = 10 ∧ (hK h3 (hR h3 x0 2) = 7 ∧ (hK h3 (hR h3 x0 7) = 8 ∧ C_X9_readOn (hR h3 x0 7) x1 x2 (hR h3 (hR h3 x0 2) 0) h3 (fun r6 h5 => (hK h5 r6 = 2 ∧ C_X2_countOf r6 x3 h5 (fun r8 h7 => (Q r8 h7))))))))) ∧ (r4 = 0 → (Q (-1000000002) h3))))))))
theorem G_X11_often {x0 : Nat} {x1 : Int} {x2 : Int} {x3 : Int} (h : Hp) (Q : Int → Hp → Prop) (hV : V_X11_often x0 x1 x2 x3 h Q) : C_X11_often x0 x1 x2 x3 h Q := by
  unfold V_X11_often at hV
  show Go i_X11_often 0 [(0, .inr (.inr x0)), (1, .inl x1), (2, .inl x2), (3, .inl x3)] [] h (qI Q)
  refine s_iload_n d_X11_often_0 rfl (ma 1 rfl) ?_
  refine s_iload_n d_X11_often_1 rfl (ma 2 rfl) ?_
  refine v_RX11_236 rfl (Nat.le_of_ble_eq_true rfl) d_X11_often_2 (Nat.le_of_ble_eq_true rfl) hV (fun r2 h1 hV => ?_)
  refine s_if_eq (tgt := 15) d_X11_often_5 (by decide) (fun c => ?_) (fun c => ?_)
  · have hV := hV.1 c
    refine s_ldc (n := (-1000000002)) d_X11_often_15 k_RX11_81 (by decide) (okn rfl) ?_
    exact s_iret d_X11_often_17 rfl rfl ⟨_, rfl, hV⟩
  · have hV := hV.2 c
    refine s_iload_n d_X11_often_8 rfl (ma 3 rfl) ?_
    refine v_RX11_197 rfl (Nat.le_of_ble_eq_true rfl) d_X11_often_9 (Nat.le_of_ble_eq_true rfl) hV (fun r4 h3 hV => ?_)
    refine s_if_ne (tgt := 18) d_X11_often_12 (by decide) (fun c => ?_) (fun c => ?_)
    · have hV := hV.1 c
      refine s_aload_n d_X11_often_18 rfl (ma 0 rfl) ?_
      obtain ⟨o, hV⟩ := hV
      refine f_RX11_61g rfl d_X11_often_19 o ?_
      refine s_iload_n d_X11_often_22 rfl (ma 1 rfl) ?_
      refine s_iload_n d_X11_often_23 rfl (ma 2 rfl) ?_
      refine s_aload_n d_X11_often_24 rfl (ma 0 rfl) ?_
      obtain ⟨o, hV⟩ := hV
      refine f_RX11_26g rfl d_X11_often_25 o ?_
      obtain ⟨o, hV⟩ := hV
      refine f_RX11_100g rfl d_X11_often_28 o ?_
      obtain ⟨o, hV⟩ := hV
      refine v_RX11_240 rfl (Nat.le_of_ble_eq_true rfl) d_X11_often_31 o (Nat.le_of_ble_eq_true rfl) hV (fun r6 h5 hV => ?_)
      refine s_iload_n d_X11_often_34 rfl (ma 3 rfl) ?_
      obtain ⟨o, hV⟩ := hV
      refine v_RX11_244 rfl (Nat.le_of_ble_eq_true rfl) d_X11_often_35 o (Nat.le_of_ble_eq_true rfl) hV (fun r8 h7 hV => ?_)
      exact s_iret d_X11_often_38 rfl rfl ⟨_, rfl, hV⟩
    · have hV := hV.2 c
      refine s_ldc (n := (-1000000002)) d_X11_often_15 k_RX11_81 (by decide) (okn rfl) ?_
      exact s_iret d_X11_often_17 rfl rfl ⟨_, rfl, hV⟩

theorem d_X11_first_0 : decode i_X11_first.2.1 0 = .ok (.iload_n 1, 1) := by decide +kernel
theorem d_X11_first_1 : decode i_X11_first.2.1 1 = .ok (.invokestatic 169, 3) := by decide +kernel
theorem d_X11_first_4 : decode i_X11_first.2.1 4 = .ok (.ifCond .eq 10, 3) := by decide +kernel
theorem d_X11_first_7 : decode i_X11_first.2.1 7 = .ok (.iload_n 2, 1) := by decide +kernel
theorem d_X11_first_8 : decode i_X11_first.2.1 8 = .ok (.invokestatic 197, 3) := by decide +kernel
theorem d_X11_first_11 : decode i_X11_first.2.1 11 = .ok (.ifCond .ne 6, 3) := by decide +kernel
theorem d_X11_first_14 : decode i_X11_first.2.1 14 = .ok (.ldc 81, 2) := by decide +kernel
theorem d_X11_first_16 : decode i_X11_first.2.1 16 = .ok (.ireturn, 1) := by decide +kernel
theorem d_X11_first_17 : decode i_X11_first.2.1 17 = .ok (.aload_n 0, 1) := by decide +kernel
theorem d_X11_first_18 : decode i_X11_first.2.1 18 = .ok (.getfield 61, 3) := by decide +kernel
theorem d_X11_first_21 : decode i_X11_first.2.1 21 = .ok (.iload_n 1, 1) := by decide +kernel
theorem d_X11_first_22 : decode i_X11_first.2.1 22 = .ok (.iload_n 2, 1) := by decide +kernel
theorem d_X11_first_23 : decode i_X11_first.2.1 23 = .ok (.aload_n 0, 1) := by decide +kernel
theorem d_X11_first_24 : decode i_X11_first.2.1 24 = .ok (.getfield 26, 3) := by decide +kernel
theorem d_X11_first_27 : decode i_X11_first.2.1 27 = .ok (.getfield 100, 3) := by decide +kernel
theorem d_X11_first_30 : decode i_X11_first.2.1 30 = .ok (.invokevirtual 247, 3) := by decide +kernel
theorem d_X11_first_33 : decode i_X11_first.2.1 33 = .ok (.ireturn, 1) := by decide +kernel
def V_X11_first (x0 : Nat) (x1 : Int) (x2 : Int) (h : Hp) (Q : Int → Hp → Prop) : Prop :=
  C_X11_isKind x1 h (fun r2 h1 => ((r2 = 0 → (Q (-1000000002) h1)) ∧ (¬ r2 = 0 → (C_X11_isFigure x2 h1 (fun r4 h3 => ((r4 ≠ 0 → (hK h3 x0 = 10 ∧ (hK h3 x0 = 10 ∧ (hK h3 (hR h3 x0 2) = 7 ∧ (hK h3 (hR h3 x0 7) = 8 ∧ C_X9_firstWith (hR h3 x0 7) x1 x2 (hR h3 (hR h3 x0 2) 0) h3 (fun r6 h5 => (Q r6 h5))))))) ∧ (r4 = 0 → (Q (-1000000002) h3))))))))
theorem G_X11_first {x0 : Nat} {x1 : Int} {x2 : Int} (h : Hp) (Q : Int → Hp → Prop) (hV : V_X11_first x0 x1 x2 h Q) : C_X11_first x0 x1 x2 h Q := by
  unfold V_X11_first at hV
  show Go i_X11_first 0 [(0, .inr (.inr x0)), (1, .inl x1), (2, .inl x2)] [] h (qI Q)
  refine s_iload_n d_X11_first_0 rfl (ma 1 rfl) ?_
  refine v_RX11_169 rfl (Nat.le_of_ble_eq_true rfl) d_X11_first_1 (Nat.le_of_ble_eq_true rfl) hV (fun r2 h1 hV => ?_)
  refine s_if_eq (tgt := 14) d_X11_first_4 (by decide) (fun c => ?_) (fun c => ?_)
  · have hV := hV.1 c
    refine s_ldc (n := (-1000000002)) d_X11_first_14 k_RX11_81 (by decide) (okn rfl) ?_
    exact s_iret d_X11_first_16 rfl rfl ⟨_, rfl, hV⟩
  · have hV := hV.2 c
    refine s_iload_n d_X11_first_7 rfl (ma 2 rfl) ?_
    refine v_RX11_197 rfl (Nat.le_of_ble_eq_true rfl) d_X11_first_8 (Nat.le_of_ble_eq_true rfl) hV (fun r4 h3 hV => ?_)
    refine s_if_ne (tgt := 17) d_X11_first_11 (by decide) (fun c => ?_) (fun c => ?_)
    · have hV := hV.1 c
      refine s_aload_n d_X11_first_17 rfl (ma 0 rfl) ?_
      obtain ⟨o, hV⟩ := hV
      refine f_RX11_61g rfl d_X11_first_18 o ?_
      refine s_iload_n d_X11_first_21 rfl (ma 1 rfl) ?_
      refine s_iload_n d_X11_first_22 rfl (ma 2 rfl) ?_
      refine s_aload_n d_X11_first_23 rfl (ma 0 rfl) ?_
      obtain ⟨o, hV⟩ := hV
      refine f_RX11_26g rfl d_X11_first_24 o ?_
      obtain ⟨o, hV⟩ := hV
      refine f_RX11_100g rfl d_X11_first_27 o ?_
      obtain ⟨o, hV⟩ := hV
      refine v_RX11_247 rfl (Nat.le_of_ble_eq_true rfl) d_X11_first_30 o (Nat.le_of_ble_eq_true rfl) hV (fun r6 h5 hV => ?_)
      exact s_iret d_X11_first_33 rfl rfl ⟨_, rfl, hV⟩
    · have hV := hV.2 c
      refine s_ldc (n := (-1000000002)) d_X11_first_14 k_RX11_81 (by decide) (okn rfl) ?_
      exact s_iret d_X11_first_16 rfl rfl ⟨_, rfl, hV⟩

theorem d_X11_again_0 : decode i_X11_again.2.1 0 = .ok (.iload_n 1, 1) := by decide +kernel
theorem d_X11_again_1 : decode i_X11_again.2.1 1 = .ok (.ifCond .eq 11, 3) := by decide +kernel
theorem d_X11_again_4 : decode i_X11_again.2.1 4 = .ok (.iload_n 1, 1) := by decide +kernel
theorem d_X11_again_5 : decode i_X11_again.2.1 5 = .ok (.iconst 1, 1) := by decide +kernel
theorem d_X11_again_6 : decode i_X11_again.2.1 6 = .ok (.if_icmp .eq 6, 3) := by decide +kernel
theorem d_X11_again_9 : decode i_X11_again.2.1 9 = .ok (.ldc 81, 2) := by decide +kernel
theorem d_X11_again_11 : decode i_X11_again.2.1 11 = .ok (.ireturn, 1) := by decide +kernel
theorem d_X11_again_12 : decode i_X11_again.2.1 12 = .ok (.aload_n 0, 1) := by decide +kernel
theorem d_X11_again_13 : decode i_X11_again.2.1 13 = .ok (.getfield 61, 3) := by decide +kernel
theorem d_X11_again_16 : decode i_X11_again.2.1 16 = .ok (.aload_n 0, 1) := by decide +kernel
theorem d_X11_again_17 : decode i_X11_again.2.1 17 = .ok (.getfield 26, 3) := by decide +kernel
theorem d_X11_again_20 : decode i_X11_again.2.1 20 = .ok (.getfield 100, 3) := by decide +kernel
theorem d_X11_again_23 : decode i_X11_again.2.1 23 = .ok (.invokevirtual 251, 3) := by decide +kernel
theorem d_X11_again_26 : decode i_X11_again.2.1 26 = .ok (.istore_n 2, 1) := by decide +kernel
theorem d_X11_again_27 : decode i_X11_again.2.1 27 = .ok (.iload_n 1, 1) := by decide +kernel
theorem d_X11_again_28 : decode i_X11_again.2.1 28 = .ok (.ifCond .ne 7, 3) := by decide +kernel
theorem d_X11_again_31 : decode i_X11_again.2.1 31 = .ok (.iload_n 2, 1) := by decide +kernel
theorem d_X11_again_32 : decode i_X11_again.2.1 32 = .ok (.goto 10, 3) := by decide +kernel
theorem d_X11_again_35 : decode i_X11_again.2.1 35 = .ok (.aload_n 0, 1) := by decide +kernel
theorem d_X11_again_36 : decode i_X11_again.2.1 36 = .ok (.getfield 61, 3) := by decide +kernel
theorem d_X11_again_39 : decode i_X11_again.2.1 39 = .ok (.getfield 254, 3) := by decide +kernel
theorem d_X11_again_42 : decode i_X11_again.2.1 42 = .ok (.ireturn, 1) := by decide +kernel
def J_X11_again_12 (x0 : Nat) (x1 : Int) (h : Hp) (Q : Int → Hp → Prop) : Prop :=
  hK h x0 = 10 ∧ (hK h x0 = 10 ∧ (hK h (hR h x0 2) = 7 ∧ (hK h (hR h x0 7) = 8 ∧ C_X9_comesAgain (hR h x0 7) (hR h (hR h x0 2) 0) h (fun r2 h1 => ((x1 ≠ 0 → (hK h1 x0 = 10 ∧ (hK h1 (hR h1 x0 7) = 8 ∧ (Q (hI h1 (hR h1 x0 7) 3) h1)))) ∧ (x1 = 0 → (Q r2 h1)))))))
theorem GJ_X11_again_12 (x0 : Nat) (x1 : Int) (h : Hp) (Q : Int → Hp → Prop) (hV : J_X11_again_12 x0 x1 h Q) : Go i_X11_again 12 [(0, .inr (.inr x0)), (1, .inl x1)] [] h (qI Q) := by
  unfold J_X11_again_12 at hV
  refine s_aload_n d_X11_again_12 rfl (ma 0 rfl) ?_
  obtain ⟨o, hV⟩ := hV
  refine f_RX11_61g rfl d_X11_again_13 o ?_
  refine s_aload_n d_X11_again_16 rfl (ma 0 rfl) ?_
  obtain ⟨o, hV⟩ := hV
  refine f_RX11_26g rfl d_X11_again_17 o ?_
  obtain ⟨o, hV⟩ := hV
  refine f_RX11_100g rfl d_X11_again_20 o ?_
  obtain ⟨o, hV⟩ := hV
  refine v_RX11_251 rfl (Nat.le_of_ble_eq_true rfl) d_X11_again_23 o (Nat.le_of_ble_eq_true rfl) hV (fun r2 h1 hV => ?_)
  refine s_istore_n (lv' := [(2, .inl r2), (0, .inr (.inr x0)), (1, .inl x1)]) d_X11_again_26 rfl (Nat.le_of_ble_eq_true rfl) rfl ?_
  refine s_iload_n d_X11_again_27 rfl (ma 2 rfl) ?_
  refine s_if_ne (tgt := 35) d_X11_again_28 (by decide) (fun c => ?_) (fun c => ?_)
  · have hV := hV.1 c
    refine s_aload_n d_X11_again_35 rfl (ma 1 rfl) ?_
    obtain ⟨o, hV⟩ := hV
    refine f_RX11_61g rfl d_X11_again_36 o ?_
    obtain ⟨o, hV⟩ := hV
    refine f_RX11_254g rfl d_X11_again_39 o ?_
    exact s_iret d_X11_again_42 rfl rfl ⟨_, rfl, hV⟩
  · have hV := hV.2 c
    refine s_iload_n d_X11_again_31 rfl (ma 0 rfl) ?_
    refine s_goto (tgt := 42) d_X11_again_32 (by decide) ?_
    exact s_iret d_X11_again_42 rfl rfl ⟨_, rfl, hV⟩
def V_X11_again (x0 : Nat) (x1 : Int) (h : Hp) (Q : Int → Hp → Prop) : Prop :=
  (x1 = 0 → (J_X11_again_12 x0 x1 h Q)) ∧ (¬ x1 = 0 → ((x1 = 1 → (J_X11_again_12 x0 x1 h Q)) ∧ (¬ x1 = 1 → (Q (-1000000002) h))))
theorem G_X11_again {x0 : Nat} {x1 : Int} (h : Hp) (Q : Int → Hp → Prop) (hV : V_X11_again x0 x1 h Q) : C_X11_again x0 x1 h Q := by
  unfold V_X11_again at hV
  show Go i_X11_again 0 [(0, .inr (.inr x0)), (1, .inl x1)] [] h (qI Q)
  refine s_iload_n d_X11_again_0 rfl (ma 1 rfl) ?_
  refine s_if_eq (tgt := 12) d_X11_again_1 (by decide) (fun c => ?_) (fun c => ?_)
  · have hV := hV.1 c
    exact GJ_X11_again_12 _ _ _ _ hV
  · have hV := hV.2 c
    refine s_iload_n d_X11_again_4 rfl (ma 1 rfl) ?_
    refine s_iconst d_X11_again_5 (okn rfl) ?_
    refine s_icmp_eq (tgt := 12) d_X11_again_6 (by decide) (fun c => ?_) (fun c => ?_)
    · have hV := hV.1 c
      exact GJ_X11_again_12 _ _ _ _ hV
    · have hV := hV.2 c
      refine s_ldc (n := (-1000000002)) d_X11_again_9 k_RX11_81 (by decide) (okn rfl) ?_
      exact s_iret d_X11_again_11 rfl rfl ⟨_, rfl, hV⟩

theorem d_X11_apart_0 : decode i_X11_apart.2.1 0 = .ok (.iload_n 1, 1) := by decide +kernel
theorem d_X11_apart_1 : decode i_X11_apart.2.1 1 = .ok (.ifCond .lt 8, 3) := by decide +kernel
theorem d_X11_apart_4 : decode i_X11_apart.2.1 4 = .ok (.iload_n 1, 1) := by decide +kernel
theorem d_X11_apart_5 : decode i_X11_apart.2.1 5 = .ok (.iconst 2, 1) := by decide +kernel
theorem d_X11_apart_6 : decode i_X11_apart.2.1 6 = .ok (.if_icmp .le 6, 3) := by decide +kernel
theorem d_X11_apart_9 : decode i_X11_apart.2.1 9 = .ok (.ldc 81, 2) := by decide +kernel
theorem d_X11_apart_11 : decode i_X11_apart.2.1 11 = .ok (.ireturn, 1) := by decide +kernel
theorem d_X11_apart_12 : decode i_X11_apart.2.1 12 = .ok (.aload_n 0, 1) := by decide +kernel
theorem d_X11_apart_13 : decode i_X11_apart.2.1 13 = .ok (.getfield 68, 3) := by decide +kernel
theorem d_X11_apart_16 : decode i_X11_apart.2.1 16 = .ok (.aload_n 0, 1) := by decide +kernel
theorem d_X11_apart_17 : decode i_X11_apart.2.1 17 = .ok (.getfield 26, 3) := by decide +kernel
theorem d_X11_apart_20 : decode i_X11_apart.2.1 20 = .ok (.getfield 100, 3) := by decide +kernel
theorem d_X11_apart_23 : decode i_X11_apart.2.1 23 = .ok (.aload_n 0, 1) := by decide +kernel
theorem d_X11_apart_24 : decode i_X11_apart.2.1 24 = .ok (.getfield 61, 3) := by decide +kernel
theorem d_X11_apart_27 : decode i_X11_apart.2.1 27 = .ok (.invokevirtual 257, 3) := by decide +kernel
theorem d_X11_apart_30 : decode i_X11_apart.2.1 30 = .ok (.iload_n 1, 1) := by decide +kernel
theorem d_X11_apart_31 : decode i_X11_apart.2.1 31 = .ok (.lookupswitch 41 #[(0, 25), (1, 33)], 25) := by decide +kernel
theorem d_X11_apart_56 : decode i_X11_apart.2.1 56 = .ok (.aload_n 0, 1) := by decide +kernel
theorem d_X11_apart_57 : decode i_X11_apart.2.1 57 = .ok (.getfield 68, 3) := by decide +kernel
theorem d_X11_apart_60 : decode i_X11_apart.2.1 60 = .ok (.getfield 261, 3) := by decide +kernel
theorem d_X11_apart_63 : decode i_X11_apart.2.1 63 = .ok (.ireturn, 1) := by decide +kernel
theorem d_X11_apart_64 : decode i_X11_apart.2.1 64 = .ok (.aload_n 0, 1) := by decide +kernel
theorem d_X11_apart_65 : decode i_X11_apart.2.1 65 = .ok (.getfield 68, 3) := by decide +kernel
theorem d_X11_apart_68 : decode i_X11_apart.2.1 68 = .ok (.invokevirtual 262, 3) := by decide +kernel
theorem d_X11_apart_71 : decode i_X11_apart.2.1 71 = .ok (.ireturn, 1) := by decide +kernel
theorem d_X11_apart_72 : decode i_X11_apart.2.1 72 = .ok (.aload_n 0, 1) := by decide +kernel
theorem d_X11_apart_73 : decode i_X11_apart.2.1 73 = .ok (.getfield 68, 3) := by decide +kernel
theorem d_X11_apart_76 : decode i_X11_apart.2.1 76 = .ok (.aload_n 0, 1) := by decide +kernel
theorem d_X11_apart_77 : decode i_X11_apart.2.1 77 = .ok (.getfield 26, 3) := by decide +kernel
theorem d_X11_apart_80 : decode i_X11_apart.2.1 80 = .ok (.getfield 100, 3) := by decide +kernel
theorem d_X11_apart_83 : decode i_X11_apart.2.1 83 = .ok (.getfield 103, 3) := by decide +kernel
theorem d_X11_apart_86 : decode i_X11_apart.2.1 86 = .ok (.invokevirtual 265, 3) := by decide +kernel
theorem d_X11_apart_89 : decode i_X11_apart.2.1 89 = .ok (.ireturn, 1) := by decide +kernel
def V_X11_apart (x0 : Nat) (x1 : Int) (h : Hp) (Q : Int → Hp → Prop) : Prop :=
  (x1 < 0 → (Q (-1000000002) h)) ∧ (¬ x1 < 0 → ((x1 ≤ 2 → (hK h x0 = 10 ∧ (hK h x0 = 10 ∧ (hK h (hR h x0 2) = 7 ∧ (hK h x0 = 10 ∧ (hK h (hR h x0 8) = 5 ∧ C_X5_find (hR h x0 8) (hR h (hR h x0 2) 0) (hR h x0 7) h (fun h1 => ((x1 = 0 → (hK h1 x0 = 10 ∧ (hK h1 (hR h1 x0 8) = 5 ∧ (Q (hI h1 (hR h1 x0 8) 2) h1)))) ∧ (x1 = 1 → (hK h1 x0 = 10 ∧ (hK h1 (hR h1 x0 8) = 5 ∧ C_X5_firstPlace (hR h1 x0 8)  h1 (fun r3 h2 => (Q r3 h2))))) ∧ ((x1 ≠ 0 ∧ x1 ≠ 1) → (hK h1 x0 = 10 ∧ (hK h1 x0 = 10 ∧ (hK h1 (hR h1 x0 2) = 7 ∧ (hK h1 (hR h1 (hR h1 x0 2) 0) = 2 ∧ (hK h1 (hR h1 x0 8) = 5 ∧ C_X5_longestPart (hR h1 x0 8) (hI h1 (hR h1 (hR h1 x0 2) 0) 1) h1 (fun r5 h4 => (Q r5 h4)))))))))))))))) ∧ (¬ x1 ≤ 2 → (Q (-1000000002) h))))
theorem G_X11_apart {x0 : Nat} {x1 : Int} (h : Hp) (Q : Int → Hp → Prop) (hV : V_X11_apart x0 x1 h Q) : C_X11_apart x0 x1 h Q := by
  unfold V_X11_apart at hV
  show Go i_X11_apart 0 [(0, .inr (.inr x0)), (1, .inl x1)] [] h (qI Q)
  refine s_iload_n d_X11_apart_0 rfl (ma 1 rfl) ?_
  refine s_if_lt (tgt := 9) d_X11_apart_1 (by decide) (fun c => ?_) (fun c => ?_)
  · have hV := hV.1 c
    refine s_ldc (n := (-1000000002)) d_X11_apart_9 k_RX11_81 (by decide) (okn rfl) ?_
    exact s_iret d_X11_apart_11 rfl rfl ⟨_, rfl, hV⟩
  · have hV := hV.2 c
    refine s_iload_n d_X11_apart_4 rfl (ma 1 rfl) ?_
    refine s_iconst d_X11_apart_5 (okn rfl) ?_
    refine s_icmp_le (tgt := 12) d_X11_apart_6 (by decide) (fun c => ?_) (fun c => ?_)
    · have hV := hV.1 c
      refine s_aload_n d_X11_apart_12 rfl (ma 0 rfl) ?_
      obtain ⟨o, hV⟩ := hV
      refine f_RX11_68g rfl d_X11_apart_13 o ?_
      refine s_aload_n d_X11_apart_16 rfl (ma 0 rfl) ?_
      obtain ⟨o, hV⟩ := hV
      refine f_RX11_26g rfl d_X11_apart_17 o ?_
      obtain ⟨o, hV⟩ := hV
      refine f_RX11_100g rfl d_X11_apart_20 o ?_
      refine s_aload_n d_X11_apart_23 rfl (ma 0 rfl) ?_
      obtain ⟨o, hV⟩ := hV
      refine f_RX11_61g rfl d_X11_apart_24 o ?_
      obtain ⟨o, hV⟩ := hV
      refine v_RX11_257 rfl (Nat.le_of_ble_eq_true rfl) d_X11_apart_27 o (Nat.le_of_ble_eq_true rfl) hV (fun h1 hV => ?_)
      refine s_iload_n d_X11_apart_30 rfl (ma 1 rfl) ?_
      by_cases c0 : x1 = 0
      · have hV := hV.1 c0
        refine s_lsw (tgt := 56) d_X11_apart_31 (by decide) (by rw [c0]; try rfl) (by decide) ?_
        refine s_aload_n d_X11_apart_56 rfl (ma 0 rfl) ?_
        obtain ⟨o, hV⟩ := hV
        refine f_RX11_68g rfl d_X11_apart_57 o ?_
        obtain ⟨o, hV⟩ := hV
        refine f_RX11_261g rfl d_X11_apart_60 o ?_
        exact s_iret d_X11_apart_63 rfl rfl ⟨_, rfl, hV⟩
      have hV := hV.2
      by_cases c1 : x1 = 1
      · have hV := hV.1 c1
        refine s_lsw (tgt := 64) d_X11_apart_31 (by decide) (by rw [c1]; try rfl) (by decide) ?_
        refine s_aload_n d_X11_apart_64 rfl (ma 0 rfl) ?_
        obtain ⟨o, hV⟩ := hV
        refine f_RX11_68g rfl d_X11_apart_65 o ?_
        obtain ⟨o, hV⟩ := hV
        refine v_RX11_262 rfl (Nat.le_of_ble_eq_true rfl) d_X11_apart_68 o (Nat.le_of_ble_eq_true rfl) hV (fun r3 h2 hV => ?_)
        exact s_iret d_X11_apart_71 rfl rfl ⟨_, rfl, hV⟩
      have hV := hV.2
      have hV := hV ⟨c0, c1⟩
      refine s_lsw (tgt := 72) (off := 41) d_X11_apart_31 (by decide) (by simp [Op.lookupswitch.offset, c0, Ne.symm c0, c1, Ne.symm c1]) (by decide) ?_
      refine s_aload_n d_X11_apart_72 rfl (ma 0 rfl) ?_
      obtain ⟨o, hV⟩ := hV
      refine f_RX11_68g rfl d_X11_apart_73 o ?_
      refine s_aload_n d_X11_apart_76 rfl (ma 0 rfl) ?_
      obtain ⟨o, hV⟩ := hV
      refine f_RX11_26g rfl d_X11_apart_77 o ?_
      obtain ⟨o, hV⟩ := hV
      refine f_RX11_100g rfl d_X11_apart_80 o ?_
      obtain ⟨o, hV⟩ := hV
      refine f_RX11_103g rfl d_X11_apart_83 o ?_
      obtain ⟨o, hV⟩ := hV
      refine v_RX11_265 rfl (Nat.le_of_ble_eq_true rfl) d_X11_apart_86 o (Nat.le_of_ble_eq_true rfl) hV (fun r5 h4 hV => ?_)
      exact s_iret d_X11_apart_89 rfl rfl ⟨_, rfl, hV⟩
    · have hV := hV.2 c
      refine s_ldc (n := (-1000000002)) d_X11_apart_9 k_RX11_81 (by decide) (okn rfl) ?_
      exact s_iret d_X11_apart_11 rfl rfl ⟨_, rfl, hV⟩

theorem d_X11_back_0 : decode i_X11_back.2.1 0 = .ok (.iload_n 1, 1) := by decide +kernel
theorem d_X11_back_1 : decode i_X11_back.2.1 1 = .ok (.ifCond .eq 11, 3) := by decide +kernel
theorem d_X11_back_4 : decode i_X11_back.2.1 4 = .ok (.iload_n 1, 1) := by decide +kernel
theorem d_X11_back_5 : decode i_X11_back.2.1 5 = .ok (.iconst 1, 1) := by decide +kernel
theorem d_X11_back_6 : decode i_X11_back.2.1 6 = .ok (.if_icmp .eq 6, 3) := by decide +kernel
theorem d_X11_back_9 : decode i_X11_back.2.1 9 = .ok (.ldc 81, 2) := by decide +kernel
theorem d_X11_back_11 : decode i_X11_back.2.1 11 = .ok (.ireturn, 1) := by decide +kernel
theorem d_X11_back_12 : decode i_X11_back.2.1 12 = .ok (.aload_n 0, 1) := by decide +kernel
theorem d_X11_back_13 : decode i_X11_back.2.1 13 = .ok (.getfield 61, 3) := by decide +kernel
theorem d_X11_back_16 : decode i_X11_back.2.1 16 = .ok (.aload_n 0, 1) := by decide +kernel
theorem d_X11_back_17 : decode i_X11_back.2.1 17 = .ok (.getfield 26, 3) := by decide +kernel
theorem d_X11_back_20 : decode i_X11_back.2.1 20 = .ok (.getfield 100, 3) := by decide +kernel
theorem d_X11_back_23 : decode i_X11_back.2.1 23 = .ok (.invokevirtual 268, 3) := by decide +kernel
theorem d_X11_back_26 : decode i_X11_back.2.1 26 = .ok (.istore_n 2, 1) := by decide +kernel
theorem d_X11_back_27 : decode i_X11_back.2.1 27 = .ok (.iload_n 1, 1) := by decide +kernel
theorem d_X11_back_28 : decode i_X11_back.2.1 28 = .ok (.ifCond .ne 7, 3) := by decide +kernel
theorem d_X11_back_31 : decode i_X11_back.2.1 31 = .ok (.iload_n 2, 1) := by decide +kernel
theorem d_X11_back_32 : decode i_X11_back.2.1 32 = .ok (.goto 13, 3) := by decide +kernel
theorem d_X11_back_35 : decode i_X11_back.2.1 35 = .ok (.aload_n 0, 1) := by decide +kernel
theorem d_X11_back_36 : decode i_X11_back.2.1 36 = .ok (.getfield 61, 3) := by decide +kernel
theorem d_X11_back_39 : decode i_X11_back.2.1 39 = .ok (.getfield 271, 3) := by decide +kernel
theorem d_X11_back_42 : decode i_X11_back.2.1 42 = .ok (.getfield 103, 3) := by decide +kernel
theorem d_X11_back_45 : decode i_X11_back.2.1 45 = .ok (.ireturn, 1) := by decide +kernel
def J_X11_back_12 (x0 : Nat) (x1 : Int) (h : Hp) (Q : Int → Hp → Prop) : Prop :=
  hK h x0 = 10 ∧ (hK h x0 = 10 ∧ (hK h (hR h x0 2) = 7 ∧ (hK h (hR h x0 7) = 8 ∧ C_X9_goOld (hR h x0 7) (hR h (hR h x0 2) 0) h (fun r2 h1 => ((x1 ≠ 0 → (hK h1 x0 = 10 ∧ (hK h1 (hR h1 x0 7) = 8 ∧ (hK h1 (hR h1 (hR h1 x0 7) 0) = 2 ∧ (Q (hI h1 (hR h1 (hR h1 x0 7) 0) 1) h1))))) ∧ (x1 = 0 → (Q r2 h1)))))))
theorem GJ_X11_back_12 (x0 : Nat) (x1 : Int) (h : Hp) (Q : Int → Hp → Prop) (hV : J_X11_back_12 x0 x1 h Q) : Go i_X11_back 12 [(0, .inr (.inr x0)), (1, .inl x1)] [] h (qI Q) := by
  unfold J_X11_back_12 at hV
  refine s_aload_n d_X11_back_12 rfl (ma 0 rfl) ?_
  obtain ⟨o, hV⟩ := hV
  refine f_RX11_61g rfl d_X11_back_13 o ?_
  refine s_aload_n d_X11_back_16 rfl (ma 0 rfl) ?_
  obtain ⟨o, hV⟩ := hV
  refine f_RX11_26g rfl d_X11_back_17 o ?_
  obtain ⟨o, hV⟩ := hV
  refine f_RX11_100g rfl d_X11_back_20 o ?_
  obtain ⟨o, hV⟩ := hV
  refine v_RX11_268 rfl (Nat.le_of_ble_eq_true rfl) d_X11_back_23 o (Nat.le_of_ble_eq_true rfl) hV (fun r2 h1 hV => ?_)
  refine s_istore_n (lv' := [(2, .inl r2), (0, .inr (.inr x0)), (1, .inl x1)]) d_X11_back_26 rfl (Nat.le_of_ble_eq_true rfl) rfl ?_
  refine s_iload_n d_X11_back_27 rfl (ma 2 rfl) ?_
  refine s_if_ne (tgt := 35) d_X11_back_28 (by decide) (fun c => ?_) (fun c => ?_)
  · have hV := hV.1 c
    refine s_aload_n d_X11_back_35 rfl (ma 1 rfl) ?_
    obtain ⟨o, hV⟩ := hV
    refine f_RX11_61g rfl d_X11_back_36 o ?_
    obtain ⟨o, hV⟩ := hV
    refine f_RX11_271g rfl d_X11_back_39 o ?_
    obtain ⟨o, hV⟩ := hV
    refine f_RX11_103g rfl d_X11_back_42 o ?_
    exact s_iret d_X11_back_45 rfl rfl ⟨_, rfl, hV⟩
  · have hV := hV.2 c
    refine s_iload_n d_X11_back_31 rfl (ma 0 rfl) ?_
    refine s_goto (tgt := 45) d_X11_back_32 (by decide) ?_
    exact s_iret d_X11_back_45 rfl rfl ⟨_, rfl, hV⟩
def V_X11_back (x0 : Nat) (x1 : Int) (h : Hp) (Q : Int → Hp → Prop) : Prop :=
  (x1 = 0 → (J_X11_back_12 x0 x1 h Q)) ∧ (¬ x1 = 0 → ((x1 = 1 → (J_X11_back_12 x0 x1 h Q)) ∧ (¬ x1 = 1 → (Q (-1000000002) h))))
theorem G_X11_back {x0 : Nat} {x1 : Int} (h : Hp) (Q : Int → Hp → Prop) (hV : V_X11_back x0 x1 h Q) : C_X11_back x0 x1 h Q := by
  unfold V_X11_back at hV
  show Go i_X11_back 0 [(0, .inr (.inr x0)), (1, .inl x1)] [] h (qI Q)
  refine s_iload_n d_X11_back_0 rfl (ma 1 rfl) ?_
  refine s_if_eq (tgt := 12) d_X11_back_1 (by decide) (fun c => ?_) (fun c => ?_)
  · have hV := hV.1 c
    exact GJ_X11_back_12 _ _ _ _ hV
  · have hV := hV.2 c
    refine s_iload_n d_X11_back_4 rfl (ma 1 rfl) ?_
    refine s_iconst d_X11_back_5 (okn rfl) ?_
    refine s_icmp_eq (tgt := 12) d_X11_back_6 (by decide) (fun c => ?_) (fun c => ?_)
    · have hV := hV.1 c
      exact GJ_X11_back_12 _ _ _ _ hV
    · have hV := hV.2 c
      refine s_ldc (n := (-1000000002)) d_X11_back_9 k_RX11_81 (by decide) (okn rfl) ?_
      exact s_iret d_X11_back_11 rfl rfl ⟨_, rfl, hV⟩

theorem d_X11_in_0 : decode i_X11_in.2.1 0 = .ok (.aload_n 0, 1) := by decide +kernel
theorem d_X11_in_1 : decode i_X11_in.2.1 1 = .ok (.getfield 19, 3) := by decide +kernel
theorem d_X11_in_4 : decode i_X11_in.2.1 4 = .ok (.iload_n 1, 1) := by decide +kernel
theorem d_X11_in_5 : decode i_X11_in.2.1 5 = .ok (.invokevirtual 159, 3) := by decide +kernel
theorem d_X11_in_8 : decode i_X11_in.2.1 8 = .ok (.astore_n 2, 1) := by decide +kernel
theorem d_X11_in_9 : decode i_X11_in.2.1 9 = .ok (.aload_n 2, 1) := by decide +kernel
theorem d_X11_in_10 : decode i_X11_in.2.1 10 = .ok (.ifnonnull 8, 3) := by decide +kernel
theorem d_X11_in_13 : decode i_X11_in.2.1 13 = .ok (.ldc 162, 2) := by decide +kernel
theorem d_X11_in_15 : decode i_X11_in.2.1 15 = .ok (.goto 14, 3) := by decide +kernel
theorem d_X11_in_18 : decode i_X11_in.2.1 18 = .ok (.aload_n 0, 1) := by decide +kernel
theorem d_X11_in_19 : decode i_X11_in.2.1 19 = .ok (.getfield 26, 3) := by decide +kernel
theorem d_X11_in_22 : decode i_X11_in.2.1 22 = .ok (.getfield 100, 3) := by decide +kernel
theorem d_X11_in_25 : decode i_X11_in.2.1 25 = .ok (.aload_n 2, 1) := by decide +kernel
theorem d_X11_in_26 : decode i_X11_in.2.1 26 = .ok (.invokevirtual 272, 3) := by decide +kernel
theorem d_X11_in_29 : decode i_X11_in.2.1 29 = .ok (.ireturn, 1) := by decide +kernel
def V_X11_in (x0 : Nat) (x1 : Int) (h : Hp) (Q : Int → Hp → Prop) : Prop :=
  hK h x0 = 10 ∧ (hK h (hR h x0 1) = 9 ∧ C_X10_get (hR h x0 1) x1 h (fun r2 h1 => ((r2 ≠ 0 → (hK h1 x0 = 10 ∧ (hK h1 (hR h1 x0 2) = 7 ∧ (hK h1 (hR h1 (hR h1 x0 2) 0) = 2 ∧ C_X2_placeOf (hR h1 (hR h1 x0 2) 0) r2 h1 (fun r4 h3 => (Q r4 h3)))))) ∧ (¬ r2 ≠ 0 → (Q (-1000000001) h1)))))
theorem G_X11_in {x0 : Nat} {x1 : Int} (h : Hp) (Q : Int → Hp → Prop) (hV : V_X11_in x0 x1 h Q) : C_X11_in x0 x1 h Q := by
  unfold V_X11_in at hV
  show Go i_X11_in 0 [(0, .inr (.inr x0)), (1, .inl x1)] [] h (qI Q)
  refine s_aload_n d_X11_in_0 rfl (ma 0 rfl) ?_
  obtain ⟨o, hV⟩ := hV
  refine f_RX11_19g rfl d_X11_in_1 o ?_
  refine s_iload_n d_X11_in_4 rfl (ma 1 rfl) ?_
  obtain ⟨o, hV⟩ := hV
  refine v_RX11_159 rfl (Nat.le_of_ble_eq_true rfl) d_X11_in_5 o (Nat.le_of_ble_eq_true rfl) hV (fun r2 h1 hV => ?_)
  refine s_astore_n (lv' := [(2, .inr (.inr r2)), (0, .inr (.inr x0)), (1, .inl x1)]) d_X11_in_8 rfl (Nat.le_of_ble_eq_true rfl) rfl ?_
  refine s_aload_n d_X11_in_9 rfl (ma 0 rfl) ?_
  refine s_ifnonnull (tgt := 18) d_X11_in_10 (by decide) (fun c => ?_) (fun c => ?_)
  · have hV := hV.1 c
    refine s_aload_n d_X11_in_18 rfl (ma 1 rfl) ?_
    obtain ⟨o, hV⟩ := hV
    refine f_RX11_26g rfl d_X11_in_19 o ?_
    obtain ⟨o, hV⟩ := hV
    refine f_RX11_100g rfl d_X11_in_22 o ?_
    refine s_aload_n d_X11_in_25 rfl (ma 0 rfl) ?_
    obtain ⟨o, hV⟩ := hV
    refine v_RX11_272 rfl (Nat.le_of_ble_eq_true rfl) d_X11_in_26 o (Nat.le_of_ble_eq_true rfl) hV (fun r4 h3 hV => ?_)
    exact s_iret d_X11_in_29 rfl rfl ⟨_, rfl, hV⟩
  · have hV := hV.2 c
    refine s_ldc (n := (-1000000001)) d_X11_in_13 k_RX11_162 (by decide) (okn rfl) ?_
    refine s_goto (tgt := 29) d_X11_in_15 (by decide) ?_
    exact s_iret d_X11_in_29 rfl rfl ⟨_, rfl, hV⟩

theorem d_X11_changes_0 : decode i_X11_changes.2.1 0 = .ok (.aload_n 0, 1) := by decide +kernel
theorem d_X11_changes_1 : decode i_X11_changes.2.1 1 = .ok (.getfield 19, 3) := by decide +kernel
theorem d_X11_changes_4 : decode i_X11_changes.2.1 4 = .ok (.iload_n 1, 1) := by decide +kernel
theorem d_X11_changes_5 : decode i_X11_changes.2.1 5 = .ok (.invokevirtual 159, 3) := by decide +kernel
theorem d_X11_changes_8 : decode i_X11_changes.2.1 8 = .ok (.astore_n 2, 1) := by decide +kernel
theorem d_X11_changes_9 : decode i_X11_changes.2.1 9 = .ok (.aload_n 2, 1) := by decide +kernel
theorem d_X11_changes_10 : decode i_X11_changes.2.1 10 = .ok (.ifnonnull 8, 3) := by decide +kernel
theorem d_X11_changes_13 : decode i_X11_changes.2.1 13 = .ok (.ldc 162, 2) := by decide +kernel
theorem d_X11_changes_15 : decode i_X11_changes.2.1 15 = .ok (.goto 18, 3) := by decide +kernel
theorem d_X11_changes_18 : decode i_X11_changes.2.1 18 = .ok (.aload_n 0, 1) := by decide +kernel
theorem d_X11_changes_19 : decode i_X11_changes.2.1 19 = .ok (.getfield 19, 3) := by decide +kernel
theorem d_X11_changes_22 : decode i_X11_changes.2.1 22 = .ok (.aload_n 0, 1) := by decide +kernel
theorem d_X11_changes_23 : decode i_X11_changes.2.1 23 = .ok (.getfield 26, 3) := by decide +kernel
theorem d_X11_changes_26 : decode i_X11_changes.2.1 26 = .ok (.getfield 100, 3) := by decide +kernel
theorem d_X11_changes_29 : decode i_X11_changes.2.1 29 = .ok (.aload_n 2, 1) := by decide +kernel
theorem d_X11_changes_30 : decode i_X11_changes.2.1 30 = .ok (.invokevirtual 275, 3) := by decide +kernel
theorem d_X11_changes_33 : decode i_X11_changes.2.1 33 = .ok (.ireturn, 1) := by decide +kernel
def V_X11_changes (x0 : Nat) (x1 : Int) (h : Hp) (Q : Int → Hp → Prop) : Prop :=
  hK h x0 = 10 ∧ (hK h (hR h x0 1) = 9 ∧ C_X10_get (hR h x0 1) x1 h (fun r2 h1 => ((r2 ≠ 0 → (hK h1 x0 = 10 ∧ (hK h1 x0 = 10 ∧ (hK h1 (hR h1 x0 2) = 7 ∧ (hK h1 (hR h1 x0 1) = 9 ∧ C_X10_fewestChanges (hR h1 x0 1) (hR h1 (hR h1 x0 2) 0) r2 h1 (fun r4 h3 => (Q r4 h3))))))) ∧ (¬ r2 ≠ 0 → (Q (-1000000001) h1)))))
theorem G_X11_changes {x0 : Nat} {x1 : Int} (h : Hp) (Q : Int → Hp → Prop) (hV : V_X11_changes x0 x1 h Q) : C_X11_changes x0 x1 h Q := by
  unfold V_X11_changes at hV
  show Go i_X11_changes 0 [(0, .inr (.inr x0)), (1, .inl x1)] [] h (qI Q)
  refine s_aload_n d_X11_changes_0 rfl (ma 0 rfl) ?_
  obtain ⟨o, hV⟩ := hV
  refine f_RX11_19g rfl d_X11_changes_1 o ?_
  refine s_iload_n d_X11_changes_4 rfl (ma 1 rfl) ?_
  obtain ⟨o, hV⟩ := hV
  refine v_RX11_159 rfl (Nat.le_of_ble_eq_true rfl) d_X11_changes_5 o (Nat.le_of_ble_eq_true rfl) hV (fun r2 h1 hV => ?_)
  refine s_astore_n (lv' := [(2, .inr (.inr r2)), (0, .inr (.inr x0)), (1, .inl x1)]) d_X11_changes_8 rfl (Nat.le_of_ble_eq_true rfl) rfl ?_
  refine s_aload_n d_X11_changes_9 rfl (ma 0 rfl) ?_
  refine s_ifnonnull (tgt := 18) d_X11_changes_10 (by decide) (fun c => ?_) (fun c => ?_)
  · have hV := hV.1 c
    refine s_aload_n d_X11_changes_18 rfl (ma 1 rfl) ?_
    obtain ⟨o, hV⟩ := hV
    refine f_RX11_19g rfl d_X11_changes_19 o ?_
    refine s_aload_n d_X11_changes_22 rfl (ma 1 rfl) ?_
    obtain ⟨o, hV⟩ := hV
    refine f_RX11_26g rfl d_X11_changes_23 o ?_
    obtain ⟨o, hV⟩ := hV
    refine f_RX11_100g rfl d_X11_changes_26 o ?_
    refine s_aload_n d_X11_changes_29 rfl (ma 0 rfl) ?_
    obtain ⟨o, hV⟩ := hV
    refine v_RX11_275 rfl (Nat.le_of_ble_eq_true rfl) d_X11_changes_30 o (Nat.le_of_ble_eq_true rfl) hV (fun r4 h3 hV => ?_)
    exact s_iret d_X11_changes_33 rfl rfl ⟨_, rfl, hV⟩
  · have hV := hV.2 c
    refine s_ldc (n := (-1000000001)) d_X11_changes_13 k_RX11_162 (by decide) (okn rfl) ?_
    refine s_goto (tgt := 33) d_X11_changes_15 (by decide) ?_
    exact s_iret d_X11_changes_33 rfl rfl ⟨_, rfl, hV⟩

theorem d_X11_noSlip_0 : decode i_X11_noSlip.2.1 0 = .ok (.iload_n 1, 1) := by decide +kernel
theorem d_X11_noSlip_1 : decode i_X11_noSlip.2.1 1 = .ok (.ifCond .lt 19, 3) := by decide +kernel
theorem d_X11_noSlip_4 : decode i_X11_noSlip.2.1 4 = .ok (.iload_n 1, 1) := by decide +kernel
theorem d_X11_noSlip_5 : decode i_X11_noSlip.2.1 5 = .ok (.bipush 60, 2) := by decide +kernel
theorem d_X11_noSlip_7 : decode i_X11_noSlip.2.1 7 = .ok (.if_icmp .gt 13, 3) := by decide +kernel
theorem d_X11_noSlip_10 : decode i_X11_noSlip.2.1 10 = .ok (.iload_n 2, 1) := by decide +kernel
theorem d_X11_noSlip_11 : decode i_X11_noSlip.2.1 11 = .ok (.ifCond .lt 9, 3) := by decide +kernel
theorem d_X11_noSlip_14 : decode i_X11_noSlip.2.1 14 = .ok (.iload_n 2, 1) := by decide +kernel
theorem d_X11_noSlip_15 : decode i_X11_noSlip.2.1 15 = .ok (.bipush 100, 2) := by decide +kernel
theorem d_X11_noSlip_17 : decode i_X11_noSlip.2.1 17 = .ok (.if_icmp .le 6, 3) := by decide +kernel
theorem d_X11_noSlip_20 : decode i_X11_noSlip.2.1 20 = .ok (.ldc 81, 2) := by decide +kernel
theorem d_X11_noSlip_22 : decode i_X11_noSlip.2.1 22 = .ok (.ireturn, 1) := by decide +kernel
theorem d_X11_noSlip_23 : decode i_X11_noSlip.2.1 23 = .ok (.ldc2_w 279, 3) := by decide +kernel
theorem d_X11_noSlip_26 : decode i_X11_noSlip.2.1 26 = .ok (.lstore_n 3, 1) := by decide +kernel
theorem d_X11_noSlip_27 : decode i_X11_noSlip.2.1 27 = .ok (.iconst 0, 1) := by decide +kernel
theorem d_X11_noSlip_28 : decode i_X11_noSlip.2.1 28 = .ok (.istore 5, 2) := by decide +kernel
theorem d_X11_noSlip_30 : decode i_X11_noSlip.2.1 30 = .ok (.iload 5, 2) := by decide +kernel
theorem d_X11_noSlip_32 : decode i_X11_noSlip.2.1 32 = .ok (.iload_n 1, 1) := by decide +kernel
theorem d_X11_noSlip_33 : decode i_X11_noSlip.2.1 33 = .ok (.if_icmp .ge 18, 3) := by decide +kernel
theorem d_X11_noSlip_36 : decode i_X11_noSlip.2.1 36 = .ok (.lload_n 3, 1) := by decide +kernel
theorem d_X11_noSlip_37 : decode i_X11_noSlip.2.1 37 = .ok (.iload_n 2, 1) := by decide +kernel
theorem d_X11_noSlip_38 : decode i_X11_noSlip.2.1 38 = .ok (.i2l, 1) := by decide +kernel
theorem d_X11_noSlip_39 : decode i_X11_noSlip.2.1 39 = .ok (.lmul, 1) := by decide +kernel
theorem d_X11_noSlip_40 : decode i_X11_noSlip.2.1 40 = .ok (.ldc2_w 281, 3) := by decide +kernel
theorem d_X11_noSlip_43 : decode i_X11_noSlip.2.1 43 = .ok (.ldiv, 1) := by decide +kernel
theorem d_X11_noSlip_44 : decode i_X11_noSlip.2.1 44 = .ok (.lstore_n 3, 1) := by decide +kernel
theorem d_X11_noSlip_45 : decode i_X11_noSlip.2.1 45 = .ok (.iinc 5 1, 3) := by decide +kernel
theorem d_X11_noSlip_48 : decode i_X11_noSlip.2.1 48 = .ok (.goto (-18), 3) := by decide +kernel
theorem d_X11_noSlip_51 : decode i_X11_noSlip.2.1 51 = .ok (.lload_n 3, 1) := by decide +kernel
theorem d_X11_noSlip_52 : decode i_X11_noSlip.2.1 52 = .ok (.l2i, 1) := by decide +kernel
theorem d_X11_noSlip_53 : decode i_X11_noSlip.2.1 53 = .ok (.ireturn, 1) := by decide +kernel
def BLp_X11_noSlip_30 (x1 : Int) (x2 : Int) (P30 : Int → Int → Hp → Prop) (x3 : Int) (x5 : Int) (h : Hp) (Q : Int → Hp → Prop) : Prop :=
  (x1 ≤ x5 → (((-2147483648 : Int) ≤ x3 ∧ x3 ≤ (2147483647 : Int)) ∧ (Q x3 h))) ∧ (¬ x1 ≤ x5 → (((-9223372036854775808 : Int) ≤ x3 * x2 ∧ x3 * x2 ≤ (9223372036854775807 : Int)) ∧ (((0 : Int) ≤ x3 * x2 ∧ (0 : Int) < 100) ∧ (∀ x3_1 : Int, x3_1 = (x3 * x2) / 100 → (((-2147483648 : Int) ≤ x5 + 1 ∧ x5 + 1 ≤ (2147483647 : Int)) ∧ (P30 x3_1 (x5 + 1) h))))))
def Lp_X11_noSlip_30 (x1 : Int) (x2 : Int) (x3 : Int) (x5 : Int) (h : Hp) (Q : Int → Hp → Prop) : Prop := ∀ P30 : Int → Int → Hp → Prop, (∀ (x3 : Int) (x5 : Int) (h : Hp), BLp_X11_noSlip_30 x1 x2 P30 x3 x5 h Q → P30 x3 x5 h) → P30 x3 x5 h
theorem Lp_X11_noSlip_30_ind {x1 : Int} {x2 : Int} {Q : Int → Hp → Prop} (I : Int → Int → Hp → Prop) (μ : Int → Int → Hp → Nat) (hs : ∀ (P30 : Int → Int → Hp → Prop) (x3 : Int) (x5 : Int) (h : Hp), I x3 x5 h → (∀ (x3' : Int) (x5' : Int) (h' : Hp), I x3' x5' h' → μ x3' x5' h' < μ x3 x5 h → P30 x3' x5' h') → BLp_X11_noSlip_30 x1 x2 P30 x3 x5 h Q) : ∀ (x3 : Int) (x5 : Int) (h : Hp), I x3 x5 h → Lp_X11_noSlip_30 x1 x2 x3 x5 h Q := by
  intro x3 x5 h hI P30 hP
  have key : ∀ (n : Nat) (x3 : Int) (x5 : Int) (h : Hp), I x3 x5 h → μ x3 x5 h < n → P30 x3 x5 h := by
    intro n
    induction n with
    | zero => intro x3 x5 h _ hl; exact absurd hl (Nat.not_lt_zero _)
    | succ n ih => intro x3 x5 h hi hl; exact hP x3 x5 h (hs P30 x3 x5 h hi (fun x3 x5 h' hi' hl' => ih x3 x5 h' hi' (by omega)))
  exact key _ x3 x5 h hI (Nat.lt_succ_self _)
theorem GLp_X11_noSlip_30 (x1 : Int) (x2 : Int) (x3 : Int) (x5 : Int) (h : Hp) (Q : Int → Hp → Prop) (hV : Lp_X11_noSlip_30 x1 x2 x3 x5 h Q) : Go i_X11_noSlip 30 [(1, .inl x1), (2, .inl x2), (3, .inr (.inl x3)), (5, .inl x5)] [] h (qI Q) := by
  refine hV (fun x3 x5 h => Go i_X11_noSlip 30 [(1, .inl x1), (2, .inl x2), (3, .inr (.inl x3)), (5, .inl x5)] [] h (qI Q)) (fun x3 x5 h hV => ?_)
  unfold BLp_X11_noSlip_30 at hV
  have hP30 : ∀ (x3 : Int) (x5 : Int) (h : Hp), Go i_X11_noSlip 30 [(1, .inl x1), (2, .inl x2), (3, .inr (.inl x3)), (5, .inl x5)] [] h (qI Q) → Go i_X11_noSlip 30 [(1, .inl x1), (2, .inl x2), (3, .inr (.inl x3)), (5, .inl x5)] [] h (qI Q) := fun _ _ h z => z
  refine s_iload d_X11_noSlip_30 (ma 3 rfl) ?_
  refine s_iload_n d_X11_noSlip_32 rfl (ma 0 rfl) ?_
  refine s_icmp_ge (tgt := 51) d_X11_noSlip_33 (by decide) (fun c => ?_) (fun c => ?_)
  · have hV := hV.1 c
    refine s_lload_n d_X11_noSlip_51 rfl (ma 2 rfl) ?_
    obtain ⟨o, hV⟩ := hV
    refine s_l2i d_X11_noSlip_52 o ?_
    exact s_iret d_X11_noSlip_53 rfl rfl ⟨_, rfl, hV⟩
  · have hV := hV.2 c
    refine s_lload_n d_X11_noSlip_36 rfl (ma 2 rfl) ?_
    refine s_iload_n d_X11_noSlip_37 rfl (ma 1 rfl) ?_
    refine s_i2l d_X11_noSlip_38 ?_
    obtain ⟨o, hV⟩ := hV
    refine s_lmul d_X11_noSlip_39 o ?_
    refine s_ldc2 (n := 100) d_X11_noSlip_40 k_RX11_281 (by decide) (okln rfl) ?_
    obtain ⟨o, hV⟩ := hV
    refine s_ldiv d_X11_noSlip_43 o.1 o.2 ?_
    refine s_nmJ (fun x3_1 ex3_1 => ?_)
    have hV := hV x3_1 ex3_1
    refine s_lstore_n (lv' := [(3, .inr (.inl x3_1)), (1, .inl x1), (2, .inl x2), (5, .inl x5)]) d_X11_noSlip_44 rfl (Nat.le_of_ble_eq_true rfl) rfl ?_
    obtain ⟨o, hV⟩ := hV
    refine s_iinc (lv' := [(5, .inl (x5 + 1)), (3, .inr (.inl x3_1)), (1, .inl x1), (2, .inl x2)]) d_X11_noSlip_45 (ma 3 rfl) o (Nat.le_of_ble_eq_true rfl) rfl ?_
    refine s_goto (tgt := 30) d_X11_noSlip_48 (by decide) ?_
    refine s_pick (lv' := [(1, .inl x1), (2, .inl x2), (3, .inr (.inl x3_1)), (5, .inl (x5 + 1))]) [2, 3, 1, 0] rfl ?_
    exact hP30 _ _ _ hV
def V_X11_noSlip (x0 : Nat) (x1 : Int) (x2 : Int) (h : Hp) (Q : Int → Hp → Prop) : Prop :=
  (x1 < 0 → (Q (-1000000002) h)) ∧ (¬ x1 < 0 → ((60 < x1 → (Q (-1000000002) h)) ∧ (¬ 60 < x1 → ((x2 < 0 → (Q (-1000000002) h)) ∧ (¬ x2 < 0 → ((x2 ≤ 100 → (Lp_X11_noSlip_30 x1 x2 1000000000 0 h Q)) ∧ (¬ x2 ≤ 100 → (Q (-1000000002) h))))))))
theorem G_X11_noSlip {x0 : Nat} {x1 : Int} {x2 : Int} (h : Hp) (Q : Int → Hp → Prop) (hV : V_X11_noSlip x0 x1 x2 h Q) : C_X11_noSlip x0 x1 x2 h Q := by
  unfold V_X11_noSlip at hV
  show Go i_X11_noSlip 0 [(0, .inr (.inr x0)), (1, .inl x1), (2, .inl x2)] [] h (qI Q)
  refine s_iload_n d_X11_noSlip_0 rfl (ma 1 rfl) ?_
  refine s_if_lt (tgt := 20) d_X11_noSlip_1 (by decide) (fun c => ?_) (fun c => ?_)
  · have hV := hV.1 c
    refine s_ldc (n := (-1000000002)) d_X11_noSlip_20 k_RX11_81 (by decide) (okn rfl) ?_
    exact s_iret d_X11_noSlip_22 rfl rfl ⟨_, rfl, hV⟩
  · have hV := hV.2 c
    refine s_iload_n d_X11_noSlip_4 rfl (ma 1 rfl) ?_
    refine s_bipush d_X11_noSlip_5 (by decide) (okn rfl) ?_
    refine s_icmp_gt (tgt := 20) d_X11_noSlip_7 (by decide) (fun c => ?_) (fun c => ?_)
    · have hV := hV.1 c
      refine s_ldc (n := (-1000000002)) d_X11_noSlip_20 k_RX11_81 (by decide) (okn rfl) ?_
      exact s_iret d_X11_noSlip_22 rfl rfl ⟨_, rfl, hV⟩
    · have hV := hV.2 c
      refine s_iload_n d_X11_noSlip_10 rfl (ma 2 rfl) ?_
      refine s_if_lt (tgt := 20) d_X11_noSlip_11 (by decide) (fun c => ?_) (fun c => ?_)
      · have hV := hV.1 c
        refine s_ldc (n := (-1000000002)) d_X11_noSlip_20 k_RX11_81 (by decide) (okn rfl) ?_
        exact s_iret d_X11_noSlip_22 rfl rfl ⟨_, rfl, hV⟩
      · have hV := hV.2 c
        refine s_iload_n d_X11_noSlip_14 rfl (ma 2 rfl) ?_
        refine s_bipush d_X11_noSlip_15 (by decide) (okn rfl) ?_
        refine s_icmp_le (tgt := 23) d_X11_noSlip_17 (by decide) (fun c => ?_) (fun c => ?_)
        · have hV := hV.1 c
          refine s_ldc2 (n := 1000000000) d_X11_noSlip_23 k_RX11_279 (by decide) (okln rfl) ?_
          refine s_lstore_n (lv' := [(3, .inr (.inl 1000000000)), (0, .inr (.inr x0)), (1, .inl x1), (2, .inl x2)]) d_X11_noSlip_26 rfl (Nat.le_of_ble_eq_true rfl) rfl ?_
          refine s_iconst d_X11_noSlip_27 (okn rfl) ?_
          refine s_istore (lv' := [(5, .inl 0), (3, .inr (.inl 1000000000)), (0, .inr (.inr x0)), (1, .inl x1), (2, .inl x2)]) d_X11_noSlip_28 (Nat.le_of_ble_eq_true rfl) rfl ?_
          refine s_pick (lv' := [(1, .inl x1), (2, .inl x2), (3, .inr (.inl 1000000000)), (5, .inl 0)]) [3, 4, 1, 0] rfl ?_
          exact GLp_X11_noSlip_30 _ _ _ _ _ _ hV
        · have hV := hV.2 c
          refine s_ldc (n := (-1000000002)) d_X11_noSlip_20 k_RX11_81 (by decide) (okn rfl) ?_
          exact s_iret d_X11_noSlip_22 rfl rfl ⟨_, rfl, hV⟩

theorem d_X11_hear_0 : decode i_X11_hear.2.1 0 = .ok (.aload_n 0, 1) := by decide +kernel
theorem d_X11_hear_1 : decode i_X11_hear.2.1 1 = .ok (.getfield 19, 3) := by decide +kernel
theorem d_X11_hear_4 : decode i_X11_hear.2.1 4 = .ok (.iload_n 1, 1) := by decide +kernel
theorem d_X11_hear_5 : decode i_X11_hear.2.1 5 = .ok (.invokevirtual 159, 3) := by decide +kernel
theorem d_X11_hear_8 : decode i_X11_hear.2.1 8 = .ok (.ifnull 14, 3) := by decide +kernel
theorem d_X11_hear_11 : decode i_X11_hear.2.1 11 = .ok (.aload_n 0, 1) := by decide +kernel
theorem d_X11_hear_12 : decode i_X11_hear.2.1 12 = .ok (.getfield 19, 3) := by decide +kernel
theorem d_X11_hear_15 : decode i_X11_hear.2.1 15 = .ok (.iload_n 2, 1) := by decide +kernel
theorem d_X11_hear_16 : decode i_X11_hear.2.1 16 = .ok (.invokevirtual 159, 3) := by decide +kernel
theorem d_X11_hear_19 : decode i_X11_hear.2.1 19 = .ok (.ifnonnull 6, 3) := by decide +kernel
theorem d_X11_hear_22 : decode i_X11_hear.2.1 22 = .ok (.ldc 162, 2) := by decide +kernel
theorem d_X11_hear_24 : decode i_X11_hear.2.1 24 = .ok (.ireturn, 1) := by decide +kernel
theorem d_X11_hear_25 : decode i_X11_hear.2.1 25 = .ok (.aload_n 0, 1) := by decide +kernel
theorem d_X11_hear_26 : decode i_X11_hear.2.1 26 = .ok (.getfield 47, 3) := by decide +kernel
theorem d_X11_hear_29 : decode i_X11_hear.2.1 29 = .ok (.iload_n 1, 1) := by decide +kernel
theorem d_X11_hear_30 : decode i_X11_hear.2.1 30 = .ok (.iload_n 2, 1) := by decide +kernel
theorem d_X11_hear_31 : decode i_X11_hear.2.1 31 = .ok (.iload_n 3, 1) := by decide +kernel
theorem d_X11_hear_32 : decode i_X11_hear.2.1 32 = .ok (.invokevirtual 283, 3) := by decide +kernel
theorem d_X11_hear_35 : decode i_X11_hear.2.1 35 = .ok (.ifCond .eq 13, 3) := by decide +kernel
theorem d_X11_hear_38 : decode i_X11_hear.2.1 38 = .ok (.aload_n 0, 1) := by decide +kernel
theorem d_X11_hear_39 : decode i_X11_hear.2.1 39 = .ok (.getfield 47, 3) := by decide +kernel
theorem d_X11_hear_42 : decode i_X11_hear.2.1 42 = .ok (.getfield 118, 3) := by decide +kernel
theorem d_X11_hear_45 : decode i_X11_hear.2.1 45 = .ok (.goto 5, 3) := by decide +kernel
theorem d_X11_hear_48 : decode i_X11_hear.2.1 48 = .ok (.ldc 90, 2) := by decide +kernel
theorem d_X11_hear_50 : decode i_X11_hear.2.1 50 = .ok (.ireturn, 1) := by decide +kernel
def V_X11_hear (x0 : Nat) (x1 : Int) (x2 : Int) (x3 : Int) (h : Hp) (Q : Int → Hp → Prop) : Prop :=
  hK h x0 = 10 ∧ (hK h (hR h x0 1) = 9 ∧ C_X10_get (hR h x0 1) x1 h (fun r2 h1 => ((r2 = 0 → (Q (-1000000001) h1)) ∧ (¬ r2 = 0 → (hK h1 x0 = 10 ∧ (hK h1 (hR h1 x0 1) = 9 ∧ C_X10_get (hR h1 x0 1) x2 h1 (fun r4 h3 => ((r4 ≠ 0 → (hK h3 x0 = 10 ∧ (hK h3 (hR h3 x0 5) = 3 ∧ C_X3_append (hR h3 x0 5) x1 x2 x3 h3 (fun r6 h5 => ((r6 = 0 → (Q (-1000000004) h5)) ∧ (¬ r6 = 0 → (hK h5 x0 = 10 ∧ (hK h5 (hR h5 x0 5) = 3 ∧ (Q (hI h5 (hR h5 x0 5) 4) h5))))))))) ∧ (¬ r4 ≠ 0 → (Q (-1000000001) h3))))))))))
theorem G_X11_hear {x0 : Nat} {x1 : Int} {x2 : Int} {x3 : Int} (h : Hp) (Q : Int → Hp → Prop) (hV : V_X11_hear x0 x1 x2 x3 h Q) : C_X11_hear x0 x1 x2 x3 h Q := by
  unfold V_X11_hear at hV
  show Go i_X11_hear 0 [(0, .inr (.inr x0)), (1, .inl x1), (2, .inl x2), (3, .inl x3)] [] h (qI Q)
  refine s_aload_n d_X11_hear_0 rfl (ma 0 rfl) ?_
  obtain ⟨o, hV⟩ := hV
  refine f_RX11_19g rfl d_X11_hear_1 o ?_
  refine s_iload_n d_X11_hear_4 rfl (ma 1 rfl) ?_
  obtain ⟨o, hV⟩ := hV
  refine v_RX11_159 rfl (Nat.le_of_ble_eq_true rfl) d_X11_hear_5 o (Nat.le_of_ble_eq_true rfl) hV (fun r2 h1 hV => ?_)
  refine s_ifnull (tgt := 22) d_X11_hear_8 (by decide) (fun c => ?_) (fun c => ?_)
  · have hV := hV.1 c
    refine s_ldc (n := (-1000000001)) d_X11_hear_22 k_RX11_162 (by decide) (okn rfl) ?_
    exact s_iret d_X11_hear_24 rfl rfl ⟨_, rfl, hV⟩
  · have hV := hV.2 c
    refine s_aload_n d_X11_hear_11 rfl (ma 0 rfl) ?_
    obtain ⟨o, hV⟩ := hV
    refine f_RX11_19g rfl d_X11_hear_12 o ?_
    refine s_iload_n d_X11_hear_15 rfl (ma 2 rfl) ?_
    obtain ⟨o, hV⟩ := hV
    refine v_RX11_159 rfl (Nat.le_of_ble_eq_true rfl) d_X11_hear_16 o (Nat.le_of_ble_eq_true rfl) hV (fun r4 h3 hV => ?_)
    refine s_ifnonnull (tgt := 25) d_X11_hear_19 (by decide) (fun c => ?_) (fun c => ?_)
    · have hV := hV.1 c
      refine s_aload_n d_X11_hear_25 rfl (ma 0 rfl) ?_
      obtain ⟨o, hV⟩ := hV
      refine f_RX11_47g rfl d_X11_hear_26 o ?_
      refine s_iload_n d_X11_hear_29 rfl (ma 1 rfl) ?_
      refine s_iload_n d_X11_hear_30 rfl (ma 2 rfl) ?_
      refine s_iload_n d_X11_hear_31 rfl (ma 3 rfl) ?_
      obtain ⟨o, hV⟩ := hV
      refine v_RX11_283 rfl (Nat.le_of_ble_eq_true rfl) d_X11_hear_32 o (Nat.le_of_ble_eq_true rfl) hV (fun r6 h5 hV => ?_)
      refine s_if_eq (tgt := 48) d_X11_hear_35 (by decide) (fun c => ?_) (fun c => ?_)
      · have hV := hV.1 c
        refine s_ldc (n := (-1000000004)) d_X11_hear_48 k_RX11_90 (by decide) (okn rfl) ?_
        exact s_iret d_X11_hear_50 rfl rfl ⟨_, rfl, hV⟩
      · have hV := hV.2 c
        refine s_aload_n d_X11_hear_38 rfl (ma 0 rfl) ?_
        obtain ⟨o, hV⟩ := hV
        refine f_RX11_47g rfl d_X11_hear_39 o ?_
        obtain ⟨o, hV⟩ := hV
        refine f_RX11_118g rfl d_X11_hear_42 o ?_
        refine s_goto (tgt := 50) d_X11_hear_45 (by decide) ?_
        exact s_iret d_X11_hear_50 rfl rfl ⟨_, rfl, hV⟩
    · have hV := hV.2 c
      refine s_ldc (n := (-1000000001)) d_X11_hear_22 k_RX11_162 (by decide) (okn rfl) ?_
      exact s_iret d_X11_hear_24 rfl rfl ⟨_, rfl, hV⟩

theorem d_X11_couldBe_0 : decode i_X11_couldBe.2.1 0 = .ok (.aload_n 0, 1) := by decide +kernel
theorem d_X11_couldBe_1 : decode i_X11_couldBe.2.1 1 = .ok (.getfield 47, 3) := by decide +kernel
theorem d_X11_couldBe_4 : decode i_X11_couldBe.2.1 4 = .ok (.aload_n 0, 1) := by decide +kernel
theorem d_X11_couldBe_5 : decode i_X11_couldBe.2.1 5 = .ok (.getfield 19, 3) := by decide +kernel
theorem d_X11_couldBe_8 : decode i_X11_couldBe.2.1 8 = .ok (.invokevirtual 286, 3) := by decide +kernel
theorem d_X11_couldBe_11 : decode i_X11_couldBe.2.1 11 = .ok (.ireturn, 1) := by decide +kernel
def V_X11_couldBe (x0 : Nat) (h : Hp) (Q : Int → Hp → Prop) : Prop :=
  hK h x0 = 10 ∧ (hK h x0 = 10 ∧ (hK h (hR h x0 5) = 3 ∧ C_X3_kindsThatFit (hR h x0 5) (hR h x0 1) h (fun r2 h1 => (Q r2 h1))))
theorem G_X11_couldBe {x0 : Nat} (h : Hp) (Q : Int → Hp → Prop) (hV : V_X11_couldBe x0 h Q) : C_X11_couldBe x0 h Q := by
  unfold V_X11_couldBe at hV
  show Go i_X11_couldBe 0 [(0, .inr (.inr x0))] [] h (qI Q)
  refine s_aload_n d_X11_couldBe_0 rfl (ma 0 rfl) ?_
  obtain ⟨o, hV⟩ := hV
  refine f_RX11_47g rfl d_X11_couldBe_1 o ?_
  refine s_aload_n d_X11_couldBe_4 rfl (ma 0 rfl) ?_
  obtain ⟨o, hV⟩ := hV
  refine f_RX11_19g rfl d_X11_couldBe_5 o ?_
  obtain ⟨o, hV⟩ := hV
  refine v_RX11_286 rfl (Nat.le_of_ble_eq_true rfl) d_X11_couldBe_8 o (Nat.le_of_ble_eq_true rfl) hV (fun r2 h1 hV => ?_)
  exact s_iret d_X11_couldBe_11 rfl rfl ⟨_, rfl, hV⟩

theorem d_X11_ask_0 : decode i_X11_ask.2.1 0 = .ok (.aload_n 0, 1) := by decide +kernel
theorem d_X11_ask_1 : decode i_X11_ask.2.1 1 = .ok (.getfield 47, 3) := by decide +kernel
theorem d_X11_ask_4 : decode i_X11_ask.2.1 4 = .ok (.aload_n 0, 1) := by decide +kernel
theorem d_X11_ask_5 : decode i_X11_ask.2.1 5 = .ok (.getfield 19, 3) := by decide +kernel
theorem d_X11_ask_8 : decode i_X11_ask.2.1 8 = .ok (.aload_n 0, 1) := by decide +kernel
theorem d_X11_ask_9 : decode i_X11_ask.2.1 9 = .ok (.getfield 47, 3) := by decide +kernel
theorem d_X11_ask_12 : decode i_X11_ask.2.1 12 = .ok (.aload_n 0, 1) := by decide +kernel
theorem d_X11_ask_13 : decode i_X11_ask.2.1 13 = .ok (.getfield 19, 3) := by decide +kernel
theorem d_X11_ask_16 : decode i_X11_ask.2.1 16 = .ok (.invokevirtual 286, 3) := by decide +kernel
theorem d_X11_ask_19 : decode i_X11_ask.2.1 19 = .ok (.invokevirtual 290, 3) := by decide +kernel
theorem d_X11_ask_22 : decode i_X11_ask.2.1 22 = .ok (.ireturn, 1) := by decide +kernel
def V_X11_ask (x0 : Nat) (h : Hp) (Q : Int → Hp → Prop) : Prop :=
  hK h x0 = 10 ∧ (hK h x0 = 10 ∧ (hK h x0 = 10 ∧ (hK h x0 = 10 ∧ (hK h (hR h x0 5) = 3 ∧ C_X3_kindsThatFit (hR h x0 5) (hR h x0 1) h (fun r2 h1 => (hK h1 (hR h x0 5) = 3 ∧ C_X3_bestToAsk (hR h x0 5) (hR h x0 1) r2 h1 (fun r4 h3 => (Q r4 h3))))))))
theorem G_X11_ask {x0 : Nat} (h : Hp) (Q : Int → Hp → Prop) (hV : V_X11_ask x0 h Q) : C_X11_ask x0 h Q := by
  unfold V_X11_ask at hV
  show Go i_X11_ask 0 [(0, .inr (.inr x0))] [] h (qI Q)
  refine s_aload_n d_X11_ask_0 rfl (ma 0 rfl) ?_
  obtain ⟨o, hV⟩ := hV
  refine f_RX11_47g rfl d_X11_ask_1 o ?_
  refine s_aload_n d_X11_ask_4 rfl (ma 0 rfl) ?_
  obtain ⟨o, hV⟩ := hV
  refine f_RX11_19g rfl d_X11_ask_5 o ?_
  refine s_aload_n d_X11_ask_8 rfl (ma 0 rfl) ?_
  obtain ⟨o, hV⟩ := hV
  refine f_RX11_47g rfl d_X11_ask_9 o ?_
  refine s_aload_n d_X11_ask_12 rfl (ma 0 rfl) ?_
  obtain ⟨o, hV⟩ := hV
  refine f_RX11_19g rfl d_X11_ask_13 o ?_
  obtain ⟨o, hV⟩ := hV
  refine v_RX11_286 rfl (Nat.le_of_ble_eq_true rfl) d_X11_ask_16 o (Nat.le_of_ble_eq_true rfl) hV (fun r2 h1 hV => ?_)
  obtain ⟨o, hV⟩ := hV
  refine v_RX11_290 rfl (Nat.le_of_ble_eq_true rfl) d_X11_ask_19 o (Nat.le_of_ble_eq_true rfl) hV (fun r4 h3 hV => ?_)
  exact s_iret d_X11_ask_22 rfl rfl ⟨_, rfl, hV⟩

theorem d_X11_write_0 : decode i_X11_write.2.1 0 = .ok (.iload_n 1, 1) := by decide +kernel
theorem d_X11_write_1 : decode i_X11_write.2.1 1 = .ok (.invokestatic 156, 3) := by decide +kernel
theorem d_X11_write_4 : decode i_X11_write.2.1 4 = .ok (.ifCond .eq 15, 3) := by decide +kernel
theorem d_X11_write_7 : decode i_X11_write.2.1 7 = .ok (.iload_n 2, 1) := by decide +kernel
theorem d_X11_write_8 : decode i_X11_write.2.1 8 = .ok (.iconst (-1), 1) := by decide +kernel
theorem d_X11_write_9 : decode i_X11_write.2.1 9 = .ok (.if_icmp .eq 13, 3) := by decide +kernel
theorem d_X11_write_12 : decode i_X11_write.2.1 12 = .ok (.iload_n 2, 1) := by decide +kernel
theorem d_X11_write_13 : decode i_X11_write.2.1 13 = .ok (.invokestatic 197, 3) := by decide +kernel
theorem d_X11_write_16 : decode i_X11_write.2.1 16 = .ok (.ifCond .ne 6, 3) := by decide +kernel
theorem d_X11_write_19 : decode i_X11_write.2.1 19 = .ok (.ldc 81, 2) := by decide +kernel
theorem d_X11_write_21 : decode i_X11_write.2.1 21 = .ok (.ireturn, 1) := by decide +kernel
theorem d_X11_write_22 : decode i_X11_write.2.1 22 = .ok (.aload_n 0, 1) := by decide +kernel
theorem d_X11_write_23 : decode i_X11_write.2.1 23 = .ok (.getfield 54, 3) := by decide +kernel
theorem d_X11_write_26 : decode i_X11_write.2.1 26 = .ok (.iload_n 1, 1) := by decide +kernel
theorem d_X11_write_27 : decode i_X11_write.2.1 27 = .ok (.iload_n 2, 1) := by decide +kernel
theorem d_X11_write_28 : decode i_X11_write.2.1 28 = .ok (.invokevirtual 294, 3) := by decide +kernel
theorem d_X11_write_31 : decode i_X11_write.2.1 31 = .ok (.ifCond .eq 13, 3) := by decide +kernel
theorem d_X11_write_34 : decode i_X11_write.2.1 34 = .ok (.aload_n 0, 1) := by decide +kernel
theorem d_X11_write_35 : decode i_X11_write.2.1 35 = .ok (.getfield 54, 3) := by decide +kernel
theorem d_X11_write_38 : decode i_X11_write.2.1 38 = .ok (.getfield 119, 3) := by decide +kernel
theorem d_X11_write_41 : decode i_X11_write.2.1 41 = .ok (.goto 5, 3) := by decide +kernel
theorem d_X11_write_44 : decode i_X11_write.2.1 44 = .ok (.ldc 90, 2) := by decide +kernel
theorem d_X11_write_46 : decode i_X11_write.2.1 46 = .ok (.ireturn, 1) := by decide +kernel
def J_X11_write_22 (x0 : Nat) (x1 : Int) (x2 : Int) (h : Hp) (Q : Int → Hp → Prop) : Prop :=
  hK h x0 = 10 ∧ (hK h (hR h x0 6) = 0 ∧ C_X0_append (hR h x0 6) x1 x2 h (fun r2 h1 => ((r2 = 0 → (Q (-1000000004) h1)) ∧ (¬ r2 = 0 → (hK h1 x0 = 10 ∧ (hK h1 (hR h1 x0 6) = 0 ∧ (Q (hI h1 (hR h1 x0 6) 2) h1)))))))
theorem GJ_X11_write_22 (x0 : Nat) (x1 : Int) (x2 : Int) (h : Hp) (Q : Int → Hp → Prop) (hV : J_X11_write_22 x0 x1 x2 h Q) : Go i_X11_write 22 [(0, .inr (.inr x0)), (1, .inl x1), (2, .inl x2)] [] h (qI Q) := by
  unfold J_X11_write_22 at hV
  refine s_aload_n d_X11_write_22 rfl (ma 0 rfl) ?_
  obtain ⟨o, hV⟩ := hV
  refine f_RX11_54g rfl d_X11_write_23 o ?_
  refine s_iload_n d_X11_write_26 rfl (ma 1 rfl) ?_
  refine s_iload_n d_X11_write_27 rfl (ma 2 rfl) ?_
  obtain ⟨o, hV⟩ := hV
  refine v_RX11_294 rfl (Nat.le_of_ble_eq_true rfl) d_X11_write_28 o (Nat.le_of_ble_eq_true rfl) hV (fun r2 h1 hV => ?_)
  refine s_if_eq (tgt := 44) d_X11_write_31 (by decide) (fun c => ?_) (fun c => ?_)
  · have hV := hV.1 c
    refine s_ldc (n := (-1000000004)) d_X11_write_44 k_RX11_90 (by decide) (okn rfl) ?_
    exact s_iret d_X11_write_46 rfl rfl ⟨_, rfl, hV⟩
  · have hV := hV.2 c
    refine s_aload_n d_X11_write_34 rfl (ma 0 rfl) ?_
    obtain ⟨o, hV⟩ := hV
    refine f_RX11_54g rfl d_X11_write_35 o ?_
    obtain ⟨o, hV⟩ := hV
    refine f_RX11_119g rfl d_X11_write_38 o ?_
    refine s_goto (tgt := 46) d_X11_write_41 (by decide) ?_
    exact s_iret d_X11_write_46 rfl rfl ⟨_, rfl, hV⟩
def V_X11_write (x0 : Nat) (x1 : Int) (x2 : Int) (h : Hp) (Q : Int → Hp → Prop) : Prop :=
  C_X11_isPlace x1 h (fun r2 h1 => ((r2 = 0 → (Q (-1000000002) h1)) ∧ (¬ r2 = 0 → ((x2 = (-1) → (J_X11_write_22 x0 x1 x2 h1 Q)) ∧ (¬ x2 = (-1) → (C_X11_isFigure x2 h1 (fun r4 h3 => ((r4 ≠ 0 → (J_X11_write_22 x0 x1 x2 h3 Q)) ∧ (r4 = 0 → (Q (-1000000002) h3))))))))))
theorem G_X11_write {x0 : Nat} {x1 : Int} {x2 : Int} (h : Hp) (Q : Int → Hp → Prop) (hV : V_X11_write x0 x1 x2 h Q) : C_X11_write x0 x1 x2 h Q := by
  unfold V_X11_write at hV
  show Go i_X11_write 0 [(0, .inr (.inr x0)), (1, .inl x1), (2, .inl x2)] [] h (qI Q)
  refine s_iload_n d_X11_write_0 rfl (ma 1 rfl) ?_
  refine v_RX11_156 rfl (Nat.le_of_ble_eq_true rfl) d_X11_write_1 (Nat.le_of_ble_eq_true rfl) hV (fun r2 h1 hV => ?_)
  refine s_if_eq (tgt := 19) d_X11_write_4 (by decide) (fun c => ?_) (fun c => ?_)
  · have hV := hV.1 c
    refine s_ldc (n := (-1000000002)) d_X11_write_19 k_RX11_81 (by decide) (okn rfl) ?_
    exact s_iret d_X11_write_21 rfl rfl ⟨_, rfl, hV⟩
  · have hV := hV.2 c
    refine s_iload_n d_X11_write_7 rfl (ma 2 rfl) ?_
    refine s_iconst d_X11_write_8 (okn rfl) ?_
    refine s_icmp_eq (tgt := 22) d_X11_write_9 (by decide) (fun c => ?_) (fun c => ?_)
    · have hV := hV.1 c
      exact GJ_X11_write_22 _ _ _ _ _ hV
    · have hV := hV.2 c
      refine s_iload_n d_X11_write_12 rfl (ma 2 rfl) ?_
      refine v_RX11_197 rfl (Nat.le_of_ble_eq_true rfl) d_X11_write_13 (Nat.le_of_ble_eq_true rfl) hV (fun r4 h3 hV => ?_)
      refine s_if_ne (tgt := 22) d_X11_write_16 (by decide) (fun c => ?_) (fun c => ?_)
      · have hV := hV.1 c
        exact GJ_X11_write_22 _ _ _ _ _ hV
      · have hV := hV.2 c
        refine s_ldc (n := (-1000000002)) d_X11_write_19 k_RX11_81 (by decide) (okn rfl) ?_
        exact s_iret d_X11_write_21 rfl rfl ⟨_, rfl, hV⟩

theorem d_X11_judge_0 : decode i_X11_judge.2.1 0 = .ok (.aload_n 0, 1) := by decide +kernel
theorem d_X11_judge_1 : decode i_X11_judge.2.1 1 = .ok (.getfield 54, 3) := by decide +kernel
theorem d_X11_judge_4 : decode i_X11_judge.2.1 4 = .ok (.aload_n 0, 1) := by decide +kernel
theorem d_X11_judge_5 : decode i_X11_judge.2.1 5 = .ok (.getfield 26, 3) := by decide +kernel
theorem d_X11_judge_8 : decode i_X11_judge.2.1 8 = .ok (.getfield 100, 3) := by decide +kernel
theorem d_X11_judge_11 : decode i_X11_judge.2.1 11 = .ok (.invokevirtual 296, 3) := by decide +kernel
theorem d_X11_judge_14 : decode i_X11_judge.2.1 14 = .ok (.ireturn, 1) := by decide +kernel
def V_X11_judge (x0 : Nat) (h : Hp) (Q : Int → Hp → Prop) : Prop :=
  hK h x0 = 10 ∧ (hK h x0 = 10 ∧ (hK h (hR h x0 2) = 7 ∧ (hK h (hR h x0 6) = 0 ∧ C_X0_firstWrong (hR h x0 6) (hR h (hR h x0 2) 0) h (fun r2 h1 => (Q r2 h1)))))
theorem G_X11_judge {x0 : Nat} (h : Hp) (Q : Int → Hp → Prop) (hV : V_X11_judge x0 h Q) : C_X11_judge x0 h Q := by
  unfold V_X11_judge at hV
  show Go i_X11_judge 0 [(0, .inr (.inr x0))] [] h (qI Q)
  refine s_aload_n d_X11_judge_0 rfl (ma 0 rfl) ?_
  obtain ⟨o, hV⟩ := hV
  refine f_RX11_54g rfl d_X11_judge_1 o ?_
  refine s_aload_n d_X11_judge_4 rfl (ma 0 rfl) ?_
  obtain ⟨o, hV⟩ := hV
  refine f_RX11_26g rfl d_X11_judge_5 o ?_
  obtain ⟨o, hV⟩ := hV
  refine f_RX11_100g rfl d_X11_judge_8 o ?_
  obtain ⟨o, hV⟩ := hV
  refine v_RX11_296 rfl (Nat.le_of_ble_eq_true rfl) d_X11_judge_11 o (Nat.le_of_ble_eq_true rfl) hV (fun r2 h1 hV => ?_)
  exact s_iret d_X11_judge_14 rfl rfl ⟨_, rfl, hV⟩

theorem d_X11_tear_0 : decode i_X11_tear.2.1 0 = .ok (.aload_n 0, 1) := by decide +kernel
theorem d_X11_tear_1 : decode i_X11_tear.2.1 1 = .ok (.getfield 47, 3) := by decide +kernel
theorem d_X11_tear_4 : decode i_X11_tear.2.1 4 = .ok (.getfield 118, 3) := by decide +kernel
theorem d_X11_tear_7 : decode i_X11_tear.2.1 7 = .ok (.aload_n 0, 1) := by decide +kernel
theorem d_X11_tear_8 : decode i_X11_tear.2.1 8 = .ok (.getfield 54, 3) := by decide +kernel
theorem d_X11_tear_11 : decode i_X11_tear.2.1 11 = .ok (.getfield 119, 3) := by decide +kernel
theorem d_X11_tear_14 : decode i_X11_tear.2.1 14 = .ok (.iadd, 1) := by decide +kernel
theorem d_X11_tear_15 : decode i_X11_tear.2.1 15 = .ok (.istore_n 1, 1) := by decide +kernel
theorem d_X11_tear_16 : decode i_X11_tear.2.1 16 = .ok (.aload_n 0, 1) := by decide +kernel
theorem d_X11_tear_17 : decode i_X11_tear.2.1 17 = .ok (.getfield 47, 3) := by decide +kernel
theorem d_X11_tear_20 : decode i_X11_tear.2.1 20 = .ok (.iconst 0, 1) := by decide +kernel
theorem d_X11_tear_21 : decode i_X11_tear.2.1 21 = .ok (.putfield 118, 3) := by decide +kernel
theorem d_X11_tear_24 : decode i_X11_tear.2.1 24 = .ok (.aload_n 0, 1) := by decide +kernel
theorem d_X11_tear_25 : decode i_X11_tear.2.1 25 = .ok (.getfield 54, 3) := by decide +kernel
theorem d_X11_tear_28 : decode i_X11_tear.2.1 28 = .ok (.iconst 0, 1) := by decide +kernel
theorem d_X11_tear_29 : decode i_X11_tear.2.1 29 = .ok (.putfield 119, 3) := by decide +kernel
theorem d_X11_tear_32 : decode i_X11_tear.2.1 32 = .ok (.iload_n 1, 1) := by decide +kernel
theorem d_X11_tear_33 : decode i_X11_tear.2.1 33 = .ok (.ireturn, 1) := by decide +kernel
def V_X11_tear (x0 : Nat) (h : Hp) (Q : Int → Hp → Prop) : Prop :=
  hK h x0 = 10 ∧ (hK h (hR h x0 5) = 3 ∧ (hK h x0 = 10 ∧ (hK h (hR h x0 6) = 0 ∧ (((-2147483648 : Int) ≤ (hI h (hR h x0 5) 4) + (hI h (hR h x0 6) 2) ∧ (hI h (hR h x0 5) 4) + (hI h (hR h x0 6) 2) ≤ (2147483647 : Int)) ∧ (∀ x1_1 : Int, x1_1 = (hI h (hR h x0 5) 4) + (hI h (hR h x0 6) 2) → (hK h x0 = 10 ∧ (hK h (hR h x0 5) = 3 ∧ ∀ h2 : Hp, h2 = wI h (hR h x0 5) 4 0 → (hK h2 x0 = 10 ∧ (hK h2 (hR h2 x0 6) = 0 ∧ ∀ h3 : Hp, h3 = wI h2 (hR h2 x0 6) 2 0 → (Q x1_1 h3))))))))))
theorem G_X11_tear {x0 : Nat} (h : Hp) (Q : Int → Hp → Prop) (hV : V_X11_tear x0 h Q) : C_X11_tear x0 h Q := by
  unfold V_X11_tear at hV
  show Go i_X11_tear 0 [(0, .inr (.inr x0))] [] h (qI Q)
  refine s_aload_n d_X11_tear_0 rfl (ma 0 rfl) ?_
  obtain ⟨o, hV⟩ := hV
  refine f_RX11_47g rfl d_X11_tear_1 o ?_
  obtain ⟨o, hV⟩ := hV
  refine f_RX11_118g rfl d_X11_tear_4 o ?_
  refine s_aload_n d_X11_tear_7 rfl (ma 0 rfl) ?_
  obtain ⟨o, hV⟩ := hV
  refine f_RX11_54g rfl d_X11_tear_8 o ?_
  obtain ⟨o, hV⟩ := hV
  refine f_RX11_119g rfl d_X11_tear_11 o ?_
  obtain ⟨o, hV⟩ := hV
  refine s_iadd d_X11_tear_14 o ?_
  refine s_nmI (fun x1_1 ex1_1 => ?_)
  have hV := hV x1_1 ex1_1
  refine s_istore_n (lv' := [(1, .inl x1_1), (0, .inr (.inr x0))]) d_X11_tear_15 rfl (Nat.le_of_ble_eq_true rfl) rfl ?_
  refine s_aload_n d_X11_tear_16 rfl (ma 1 rfl) ?_
  obtain ⟨o, hV⟩ := hV
  refine f_RX11_47g rfl d_X11_tear_17 o ?_
  refine s_iconst d_X11_tear_20 (okn rfl) ?_
  obtain ⟨o, hV⟩ := hV
  refine f_RX11_118p rfl d_X11_tear_21 o (fun h2 eh2 => ?_)
  have hV := hV h2 eh2
  refine s_aload_n d_X11_tear_24 rfl (ma 1 rfl) ?_
  obtain ⟨o, hV⟩ := hV
  refine f_RX11_54g rfl d_X11_tear_25 o ?_
  refine s_iconst d_X11_tear_28 (okn rfl) ?_
  obtain ⟨o, hV⟩ := hV
  refine f_RX11_119p rfl d_X11_tear_29 o (fun h3 eh3 => ?_)
  have hV := hV h3 eh3
  refine s_iload_n d_X11_tear_32 rfl (ma 0 rfl) ?_
  exact s_iret d_X11_tear_33 rfl rfl ⟨_, rfl, hV⟩

theorem d_X11_seed_0 : decode i_X11_seed.2.1 0 = .ok (.iload_n 1, 1) := by decide +kernel
theorem d_X11_seed_1 : decode i_X11_seed.2.1 1 = .ok (.ifCond .ge 6, 3) := by decide +kernel
theorem d_X11_seed_4 : decode i_X11_seed.2.1 4 = .ok (.ldc 81, 2) := by decide +kernel
theorem d_X11_seed_6 : decode i_X11_seed.2.1 6 = .ok (.ireturn, 1) := by decide +kernel
theorem d_X11_seed_7 : decode i_X11_seed.2.1 7 = .ok (.aload_n 0, 1) := by decide +kernel
theorem d_X11_seed_8 : decode i_X11_seed.2.1 8 = .ok (.getfield 222, 3) := by decide +kernel
theorem d_X11_seed_11 : decode i_X11_seed.2.1 11 = .ok (.istore_n 2, 1) := by decide +kernel
theorem d_X11_seed_12 : decode i_X11_seed.2.1 12 = .ok (.aload_n 0, 1) := by decide +kernel
theorem d_X11_seed_13 : decode i_X11_seed.2.1 13 = .ok (.iload_n 1, 1) := by decide +kernel
theorem d_X11_seed_14 : decode i_X11_seed.2.1 14 = .ok (.putfield 222, 3) := by decide +kernel
theorem d_X11_seed_17 : decode i_X11_seed.2.1 17 = .ok (.iload_n 2, 1) := by decide +kernel
theorem d_X11_seed_18 : decode i_X11_seed.2.1 18 = .ok (.ireturn, 1) := by decide +kernel
def V_X11_seed (x0 : Nat) (x1 : Int) (h : Hp) (Q : Int → Hp → Prop) : Prop :=
  ((0 : Int) ≤ x1 → (hK h x0 = 10 ∧ (∀ x2_1 : Int, x2_1 = hI h x0 11 → (hK h x0 = 10 ∧ ∀ h2 : Hp, h2 = wI h x0 11 x1 → (Q x2_1 h2))))) ∧ (¬ (0 : Int) ≤ x1 → (Q (-1000000002) h))
theorem G_X11_seed {x0 : Nat} {x1 : Int} (h : Hp) (Q : Int → Hp → Prop) (hV : V_X11_seed x0 x1 h Q) : C_X11_seed x0 x1 h Q := by
  unfold V_X11_seed at hV
  show Go i_X11_seed 0 [(0, .inr (.inr x0)), (1, .inl x1)] [] h (qI Q)
  refine s_iload_n d_X11_seed_0 rfl (ma 1 rfl) ?_
  refine s_if_ge (tgt := 7) d_X11_seed_1 (by decide) (fun c => ?_) (fun c => ?_)
  · have hV := hV.1 c
    refine s_aload_n d_X11_seed_7 rfl (ma 0 rfl) ?_
    obtain ⟨o, hV⟩ := hV
    refine f_RX11_222g rfl d_X11_seed_8 o ?_
    refine s_nmI (fun x2_1 ex2_1 => ?_)
    have hV := hV x2_1 ex2_1
    refine s_istore_n (lv' := [(2, .inl x2_1), (0, .inr (.inr x0)), (1, .inl x1)]) d_X11_seed_11 rfl (Nat.le_of_ble_eq_true rfl) rfl ?_
    refine s_aload_n d_X11_seed_12 rfl (ma 1 rfl) ?_
    refine s_iload_n d_X11_seed_13 rfl (ma 2 rfl) ?_
    obtain ⟨o, hV⟩ := hV
    refine f_RX11_222p rfl d_X11_seed_14 o (fun h2 eh2 => ?_)
    have hV := hV h2 eh2
    refine s_iload_n d_X11_seed_17 rfl (ma 0 rfl) ?_
    exact s_iret d_X11_seed_18 rfl rfl ⟨_, rfl, hV⟩
  · have hV := hV.2 c
    refine s_ldc (n := (-1000000002)) d_X11_seed_4 k_RX11_81 (by decide) (okn rfl) ?_
    exact s_iret d_X11_seed_6 rfl rfl ⟨_, rfl, hV⟩

theorem d_X11_keep_0 : decode i_X11_keep.2.1 0 = .ok (.aload_n 0, 1) := by decide +kernel
theorem d_X11_keep_1 : decode i_X11_keep.2.1 1 = .ok (.getfield 40, 3) := by decide +kernel
theorem d_X11_keep_4 : decode i_X11_keep.2.1 4 = .ok (.iload_n 1, 1) := by decide +kernel
theorem d_X11_keep_5 : decode i_X11_keep.2.1 5 = .ok (.invokevirtual 299, 3) := by decide +kernel
theorem d_X11_keep_8 : decode i_X11_keep.2.1 8 = .ok (.ifCond .ne 6, 3) := by decide +kernel
theorem d_X11_keep_11 : decode i_X11_keep.2.1 11 = .ok (.ldc 162, 2) := by decide +kernel
theorem d_X11_keep_13 : decode i_X11_keep.2.1 13 = .ok (.ireturn, 1) := by decide +kernel
theorem d_X11_keep_14 : decode i_X11_keep.2.1 14 = .ok (.aload_n 0, 1) := by decide +kernel
theorem d_X11_keep_15 : decode i_X11_keep.2.1 15 = .ok (.getfield 40, 3) := by decide +kernel
theorem d_X11_keep_18 : decode i_X11_keep.2.1 18 = .ok (.iload_n 1, 1) := by decide +kernel
theorem d_X11_keep_19 : decode i_X11_keep.2.1 19 = .ok (.aload_n 0, 1) := by decide +kernel
theorem d_X11_keep_20 : decode i_X11_keep.2.1 20 = .ok (.getfield 26, 3) := by decide +kernel
theorem d_X11_keep_23 : decode i_X11_keep.2.1 23 = .ok (.aload_n 0, 1) := by decide +kernel
theorem d_X11_keep_24 : decode i_X11_keep.2.1 24 = .ok (.getfield 222, 3) := by decide +kernel
theorem d_X11_keep_27 : decode i_X11_keep.2.1 27 = .ok (.invokevirtual 302, 3) := by decide +kernel
theorem d_X11_keep_30 : decode i_X11_keep.2.1 30 = .ok (.aload_n 0, 1) := by decide +kernel
theorem d_X11_keep_31 : decode i_X11_keep.2.1 31 = .ok (.getfield 33, 3) := by decide +kernel
theorem d_X11_keep_34 : decode i_X11_keep.2.1 34 = .ok (.invokevirtual 123, 3) := by decide +kernel
theorem d_X11_keep_37 : decode i_X11_keep.2.1 37 = .ok (.iconst 1, 1) := by decide +kernel
theorem d_X11_keep_38 : decode i_X11_keep.2.1 38 = .ok (.ireturn, 1) := by decide +kernel
def V_X11_keep (x0 : Nat) (x1 : Int) (h : Hp) (Q : Int → Hp → Prop) : Prop :=
  hK h x0 = 10 ∧ (hK h (hR h x0 4) = 4 ∧ C_X4_has (hR h x0 4) x1 h (fun r2 h1 => ((r2 ≠ 0 → (hK h1 x0 = 10 ∧ (hK h1 x0 = 10 ∧ (hK h1 x0 = 10 ∧ (hK h1 (hR h1 x0 4) = 4 ∧ C_X4_take (hR h1 x0 4) x1 (hR h1 x0 2) (hI h1 x0 11) h1 (fun h3 => (hK h3 x0 = 10 ∧ (hK h3 (hR h3 x0 3) = 6 ∧ C_X6_clear (hR h3 x0 3)  h3 (fun h4 => (Q 1 h4)))))))))) ∧ (r2 = 0 → (Q (-1000000001) h1)))))
theorem G_X11_keep {x0 : Nat} {x1 : Int} (h : Hp) (Q : Int → Hp → Prop) (hV : V_X11_keep x0 x1 h Q) : C_X11_keep x0 x1 h Q := by
  unfold V_X11_keep at hV
  show Go i_X11_keep 0 [(0, .inr (.inr x0)), (1, .inl x1)] [] h (qI Q)
  refine s_aload_n d_X11_keep_0 rfl (ma 0 rfl) ?_
  obtain ⟨o, hV⟩ := hV
  refine f_RX11_40g rfl d_X11_keep_1 o ?_
  refine s_iload_n d_X11_keep_4 rfl (ma 1 rfl) ?_
  obtain ⟨o, hV⟩ := hV
  refine v_RX11_299 rfl (Nat.le_of_ble_eq_true rfl) d_X11_keep_5 o (Nat.le_of_ble_eq_true rfl) hV (fun r2 h1 hV => ?_)
  refine s_if_ne (tgt := 14) d_X11_keep_8 (by decide) (fun c => ?_) (fun c => ?_)
  · have hV := hV.1 c
    refine s_aload_n d_X11_keep_14 rfl (ma 0 rfl) ?_
    obtain ⟨o, hV⟩ := hV
    refine f_RX11_40g rfl d_X11_keep_15 o ?_
    refine s_iload_n d_X11_keep_18 rfl (ma 1 rfl) ?_
    refine s_aload_n d_X11_keep_19 rfl (ma 0 rfl) ?_
    obtain ⟨o, hV⟩ := hV
    refine f_RX11_26g rfl d_X11_keep_20 o ?_
    refine s_aload_n d_X11_keep_23 rfl (ma 0 rfl) ?_
    obtain ⟨o, hV⟩ := hV
    refine f_RX11_222g rfl d_X11_keep_24 o ?_
    obtain ⟨o, hV⟩ := hV
    refine v_RX11_302 rfl (Nat.le_of_ble_eq_true rfl) d_X11_keep_27 o (Nat.le_of_ble_eq_true rfl) hV (fun h3 hV => ?_)
    refine s_aload_n d_X11_keep_30 rfl (ma 0 rfl) ?_
    obtain ⟨o, hV⟩ := hV
    refine f_RX11_33g rfl d_X11_keep_31 o ?_
    obtain ⟨o, hV⟩ := hV
    refine v_RX11_123 rfl (Nat.le_of_ble_eq_true rfl) d_X11_keep_34 o (Nat.le_of_ble_eq_true rfl) hV (fun h4 hV => ?_)
    refine s_iconst d_X11_keep_37 (okn rfl) ?_
    exact s_iret d_X11_keep_38 rfl rfl ⟨_, rfl, hV⟩
  · have hV := hV.2 c
    refine s_ldc (n := (-1000000001)) d_X11_keep_11 k_RX11_162 (by decide) (okn rfl) ?_
    exact s_iret d_X11_keep_13 rfl rfl ⟨_, rfl, hV⟩

theorem d_X11_goBack_0 : decode i_X11_goBack.2.1 0 = .ok (.aload_n 0, 1) := by decide +kernel
theorem d_X11_goBack_1 : decode i_X11_goBack.2.1 1 = .ok (.getfield 40, 3) := by decide +kernel
theorem d_X11_goBack_4 : decode i_X11_goBack.2.1 4 = .ok (.iload_n 1, 1) := by decide +kernel
theorem d_X11_goBack_5 : decode i_X11_goBack.2.1 5 = .ok (.invokevirtual 299, 3) := by decide +kernel
theorem d_X11_goBack_8 : decode i_X11_goBack.2.1 8 = .ok (.ifCond .ne 6, 3) := by decide +kernel
theorem d_X11_goBack_11 : decode i_X11_goBack.2.1 11 = .ok (.ldc 162, 2) := by decide +kernel
theorem d_X11_goBack_13 : decode i_X11_goBack.2.1 13 = .ok (.ireturn, 1) := by decide +kernel
theorem d_X11_goBack_14 : decode i_X11_goBack.2.1 14 = .ok (.aload_n 0, 1) := by decide +kernel
theorem d_X11_goBack_15 : decode i_X11_goBack.2.1 15 = .ok (.getfield 40, 3) := by decide +kernel
theorem d_X11_goBack_18 : decode i_X11_goBack.2.1 18 = .ok (.iload_n 1, 1) := by decide +kernel
theorem d_X11_goBack_19 : decode i_X11_goBack.2.1 19 = .ok (.invokevirtual 306, 3) := by decide +kernel
theorem d_X11_goBack_22 : decode i_X11_goBack.2.1 22 = .ok (.ifCond .ne 6, 3) := by decide +kernel
theorem d_X11_goBack_25 : decode i_X11_goBack.2.1 25 = .ok (.ldc 190, 2) := by decide +kernel
theorem d_X11_goBack_27 : decode i_X11_goBack.2.1 27 = .ok (.ireturn, 1) := by decide +kernel
theorem d_X11_goBack_28 : decode i_X11_goBack.2.1 28 = .ok (.aload_n 0, 1) := by decide +kernel
theorem d_X11_goBack_29 : decode i_X11_goBack.2.1 29 = .ok (.getfield 40, 3) := by decide +kernel
theorem d_X11_goBack_32 : decode i_X11_goBack.2.1 32 = .ok (.iload_n 1, 1) := by decide +kernel
theorem d_X11_goBack_33 : decode i_X11_goBack.2.1 33 = .ok (.aload_n 0, 1) := by decide +kernel
theorem d_X11_goBack_34 : decode i_X11_goBack.2.1 34 = .ok (.getfield 26, 3) := by decide +kernel
theorem d_X11_goBack_37 : decode i_X11_goBack.2.1 37 = .ok (.invokevirtual 309, 3) := by decide +kernel
theorem d_X11_goBack_40 : decode i_X11_goBack.2.1 40 = .ok (.aload_n 0, 1) := by decide +kernel
theorem d_X11_goBack_41 : decode i_X11_goBack.2.1 41 = .ok (.aload_n 0, 1) := by decide +kernel
theorem d_X11_goBack_42 : decode i_X11_goBack.2.1 42 = .ok (.getfield 40, 3) := by decide +kernel
theorem d_X11_goBack_45 : decode i_X11_goBack.2.1 45 = .ok (.iload_n 1, 1) := by decide +kernel
theorem d_X11_goBack_46 : decode i_X11_goBack.2.1 46 = .ok (.invokevirtual 312, 3) := by decide +kernel
theorem d_X11_goBack_49 : decode i_X11_goBack.2.1 49 = .ok (.putfield 222, 3) := by decide +kernel
theorem d_X11_goBack_52 : decode i_X11_goBack.2.1 52 = .ok (.aload_n 0, 1) := by decide +kernel
theorem d_X11_goBack_53 : decode i_X11_goBack.2.1 53 = .ok (.getfield 33, 3) := by decide +kernel
theorem d_X11_goBack_56 : decode i_X11_goBack.2.1 56 = .ok (.invokevirtual 123, 3) := by decide +kernel
theorem d_X11_goBack_59 : decode i_X11_goBack.2.1 59 = .ok (.iconst 1, 1) := by decide +kernel
theorem d_X11_goBack_60 : decode i_X11_goBack.2.1 60 = .ok (.ireturn, 1) := by decide +kernel
def V_X11_goBack (x0 : Nat) (x1 : Int) (h : Hp) (Q : Int → Hp → Prop) : Prop :=
  hK h x0 = 10 ∧ (hK h (hR h x0 4) = 4 ∧ C_X4_has (hR h x0 4) x1 h (fun r2 h1 => ((r2 ≠ 0 → (hK h1 x0 = 10 ∧ (hK h1 (hR h1 x0 4) = 4 ∧ C_X4_isKept (hR h1 x0 4) x1 h1 (fun r4 h3 => ((r4 ≠ 0 → (hK h3 x0 = 10 ∧ (hK h3 x0 = 10 ∧ (hK h3 (hR h3 x0 4) = 4 ∧ C_X4_give (hR h3 x0 4) x1 (hR h3 x0 2) h3 (fun h5 => (hK h5 x0 = 10 ∧ (hK h5 (hR h5 x0 4) = 4 ∧ C_X4_seedOf (hR h5 x0 4) x1 h5 (fun r7 h6 => (hK h6 x0 = 10 ∧ ∀ h8 : Hp, h8 = wI h6 x0 11 r7 → (hK h8 x0 = 10 ∧ (hK h8 (hR h8 x0 3) = 6 ∧ C_X6_clear (hR h8 x0 3)  h8 (fun h9 => (Q 1 h9))))))))))))) ∧ (r4 = 0 → (Q (-1000000003) h3))))))) ∧ (r2 = 0 → (Q (-1000000001) h1)))))
theorem G_X11_goBack {x0 : Nat} {x1 : Int} (h : Hp) (Q : Int → Hp → Prop) (hV : V_X11_goBack x0 x1 h Q) : C_X11_goBack x0 x1 h Q := by
  unfold V_X11_goBack at hV
  show Go i_X11_goBack 0 [(0, .inr (.inr x0)), (1, .inl x1)] [] h (qI Q)
  refine s_aload_n d_X11_goBack_0 rfl (ma 0 rfl) ?_
  obtain ⟨o, hV⟩ := hV
  refine f_RX11_40g rfl d_X11_goBack_1 o ?_
  refine s_iload_n d_X11_goBack_4 rfl (ma 1 rfl) ?_
  obtain ⟨o, hV⟩ := hV
  refine v_RX11_299 rfl (Nat.le_of_ble_eq_true rfl) d_X11_goBack_5 o (Nat.le_of_ble_eq_true rfl) hV (fun r2 h1 hV => ?_)
  refine s_if_ne (tgt := 14) d_X11_goBack_8 (by decide) (fun c => ?_) (fun c => ?_)
  · have hV := hV.1 c
    refine s_aload_n d_X11_goBack_14 rfl (ma 0 rfl) ?_
    obtain ⟨o, hV⟩ := hV
    refine f_RX11_40g rfl d_X11_goBack_15 o ?_
    refine s_iload_n d_X11_goBack_18 rfl (ma 1 rfl) ?_
    obtain ⟨o, hV⟩ := hV
    refine v_RX11_306 rfl (Nat.le_of_ble_eq_true rfl) d_X11_goBack_19 o (Nat.le_of_ble_eq_true rfl) hV (fun r4 h3 hV => ?_)
    refine s_if_ne (tgt := 28) d_X11_goBack_22 (by decide) (fun c => ?_) (fun c => ?_)
    · have hV := hV.1 c
      refine s_aload_n d_X11_goBack_28 rfl (ma 0 rfl) ?_
      obtain ⟨o, hV⟩ := hV
      refine f_RX11_40g rfl d_X11_goBack_29 o ?_
      refine s_iload_n d_X11_goBack_32 rfl (ma 1 rfl) ?_
      refine s_aload_n d_X11_goBack_33 rfl (ma 0 rfl) ?_
      obtain ⟨o, hV⟩ := hV
      refine f_RX11_26g rfl d_X11_goBack_34 o ?_
      obtain ⟨o, hV⟩ := hV
      refine v_RX11_309 rfl (Nat.le_of_ble_eq_true rfl) d_X11_goBack_37 o (Nat.le_of_ble_eq_true rfl) hV (fun h5 hV => ?_)
      refine s_aload_n d_X11_goBack_40 rfl (ma 0 rfl) ?_
      refine s_aload_n d_X11_goBack_41 rfl (ma 0 rfl) ?_
      obtain ⟨o, hV⟩ := hV
      refine f_RX11_40g rfl d_X11_goBack_42 o ?_
      refine s_iload_n d_X11_goBack_45 rfl (ma 1 rfl) ?_
      obtain ⟨o, hV⟩ := hV
      refine v_RX11_312 rfl (Nat.le_of_ble_eq_true rfl) d_X11_goBack_46 o (Nat.le_of_ble_eq_true rfl) hV (fun r7 h6 hV => ?_)
      obtain ⟨o, hV⟩ := hV
      refine f_RX11_222p rfl d_X11_goBack_49 o (fun h8 eh8 => ?_)
      have hV := hV h8 eh8
      refine s_aload_n d_X11_goBack_52 rfl (ma 0 rfl) ?_
      obtain ⟨o, hV⟩ := hV
      refine f_RX11_33g rfl d_X11_goBack_53 o ?_
      obtain ⟨o, hV⟩ := hV
      refine v_RX11_123 rfl (Nat.le_of_ble_eq_true rfl) d_X11_goBack_56 o (Nat.le_of_ble_eq_true rfl) hV (fun h9 hV => ?_)
      refine s_iconst d_X11_goBack_59 (okn rfl) ?_
      exact s_iret d_X11_goBack_60 rfl rfl ⟨_, rfl, hV⟩
    · have hV := hV.2 c
      refine s_ldc (n := (-1000000003)) d_X11_goBack_25 k_RX11_190 (by decide) (okn rfl) ?_
      exact s_iret d_X11_goBack_27 rfl rfl ⟨_, rfl, hV⟩
  · have hV := hV.2 c
    refine s_ldc (n := (-1000000001)) d_X11_goBack_11 k_RX11_162 (by decide) (okn rfl) ?_
    exact s_iret d_X11_goBack_13 rfl rfl ⟨_, rfl, hV⟩

theorem d_X11_isKind_0 : decode i_X11_isKind.2.1 0 = .ok (.iload_n 0, 1) := by decide +kernel
theorem d_X11_isKind_1 : decode i_X11_isKind.2.1 1 = .ok (.ifCond .lt 13, 3) := by decide +kernel
theorem d_X11_isKind_4 : decode i_X11_isKind.2.1 4 = .ok (.iload_n 0, 1) := by decide +kernel
theorem d_X11_isKind_5 : decode i_X11_isKind.2.1 5 = .ok (.bipush 6, 2) := by decide +kernel
theorem d_X11_isKind_7 : decode i_X11_isKind.2.1 7 = .ok (.if_icmp .ge 7, 3) := by decide +kernel
theorem d_X11_isKind_10 : decode i_X11_isKind.2.1 10 = .ok (.iconst 1, 1) := by decide +kernel
theorem d_X11_isKind_11 : decode i_X11_isKind.2.1 11 = .ok (.goto 4, 3) := by decide +kernel
theorem d_X11_isKind_14 : decode i_X11_isKind.2.1 14 = .ok (.iconst 0, 1) := by decide +kernel
theorem d_X11_isKind_15 : decode i_X11_isKind.2.1 15 = .ok (.ireturn, 1) := by decide +kernel
def V_X11_isKind (x0 : Int) (h : Hp) (Q : Int → Hp → Prop) : Prop :=
  (x0 < 0 → (Q 0 h)) ∧ (¬ x0 < 0 → ((6 ≤ x0 → (Q 0 h)) ∧ (¬ 6 ≤ x0 → (Q 1 h))))
theorem G_X11_isKind {x0 : Int} (h : Hp) (Q : Int → Hp → Prop) (hV : V_X11_isKind x0 h Q) : C_X11_isKind x0 h Q := by
  unfold V_X11_isKind at hV
  show Go i_X11_isKind 0 [(0, .inl x0)] [] h (qI Q)
  refine s_iload_n d_X11_isKind_0 rfl (ma 0 rfl) ?_
  refine s_if_lt (tgt := 14) d_X11_isKind_1 (by decide) (fun c => ?_) (fun c => ?_)
  · have hV := hV.1 c
    refine s_iconst d_X11_isKind_14 (okn rfl) ?_
    exact s_iret d_X11_isKind_15 rfl (nar_z (Or.inl rfl)) ⟨_, rfl, hV⟩
  · have hV := hV.2 c
    refine s_iload_n d_X11_isKind_4 rfl (ma 0 rfl) ?_
    refine s_bipush d_X11_isKind_5 (by decide) (okn rfl) ?_
    refine s_icmp_ge (tgt := 14) d_X11_isKind_7 (by decide) (fun c => ?_) (fun c => ?_)
    · have hV := hV.1 c
      refine s_iconst d_X11_isKind_14 (okn rfl) ?_
      exact s_iret d_X11_isKind_15 rfl (nar_z (Or.inl rfl)) ⟨_, rfl, hV⟩
    · have hV := hV.2 c
      refine s_iconst d_X11_isKind_10 (okn rfl) ?_
      refine s_goto (tgt := 15) d_X11_isKind_11 (by decide) ?_
      exact s_iret d_X11_isKind_15 rfl (nar_z (Or.inr rfl)) ⟨_, rfl, hV⟩

theorem d_X11_isFigure_0 : decode i_X11_isFigure.2.1 0 = .ok (.iload_n 0, 1) := by decide +kernel
theorem d_X11_isFigure_1 : decode i_X11_isFigure.2.1 1 = .ok (.ifCond .lt 13, 3) := by decide +kernel
theorem d_X11_isFigure_4 : decode i_X11_isFigure.2.1 4 = .ok (.iload_n 0, 1) := by decide +kernel
theorem d_X11_isFigure_5 : decode i_X11_isFigure.2.1 5 = .ok (.bipush 10, 2) := by decide +kernel
theorem d_X11_isFigure_7 : decode i_X11_isFigure.2.1 7 = .ok (.if_icmp .ge 7, 3) := by decide +kernel
theorem d_X11_isFigure_10 : decode i_X11_isFigure.2.1 10 = .ok (.iconst 1, 1) := by decide +kernel
theorem d_X11_isFigure_11 : decode i_X11_isFigure.2.1 11 = .ok (.goto 4, 3) := by decide +kernel
theorem d_X11_isFigure_14 : decode i_X11_isFigure.2.1 14 = .ok (.iconst 0, 1) := by decide +kernel
theorem d_X11_isFigure_15 : decode i_X11_isFigure.2.1 15 = .ok (.ireturn, 1) := by decide +kernel
def V_X11_isFigure (x0 : Int) (h : Hp) (Q : Int → Hp → Prop) : Prop :=
  (x0 < 0 → (Q 0 h)) ∧ (¬ x0 < 0 → ((10 ≤ x0 → (Q 0 h)) ∧ (¬ 10 ≤ x0 → (Q 1 h))))
theorem G_X11_isFigure {x0 : Int} (h : Hp) (Q : Int → Hp → Prop) (hV : V_X11_isFigure x0 h Q) : C_X11_isFigure x0 h Q := by
  unfold V_X11_isFigure at hV
  show Go i_X11_isFigure 0 [(0, .inl x0)] [] h (qI Q)
  refine s_iload_n d_X11_isFigure_0 rfl (ma 0 rfl) ?_
  refine s_if_lt (tgt := 14) d_X11_isFigure_1 (by decide) (fun c => ?_) (fun c => ?_)
  · have hV := hV.1 c
    refine s_iconst d_X11_isFigure_14 (okn rfl) ?_
    exact s_iret d_X11_isFigure_15 rfl (nar_z (Or.inl rfl)) ⟨_, rfl, hV⟩
  · have hV := hV.2 c
    refine s_iload_n d_X11_isFigure_4 rfl (ma 0 rfl) ?_
    refine s_bipush d_X11_isFigure_5 (by decide) (okn rfl) ?_
    refine s_icmp_ge (tgt := 14) d_X11_isFigure_7 (by decide) (fun c => ?_) (fun c => ?_)
    · have hV := hV.1 c
      refine s_iconst d_X11_isFigure_14 (okn rfl) ?_
      exact s_iret d_X11_isFigure_15 rfl (nar_z (Or.inl rfl)) ⟨_, rfl, hV⟩
    · have hV := hV.2 c
      refine s_iconst d_X11_isFigure_10 (okn rfl) ?_
      refine s_goto (tgt := 15) d_X11_isFigure_11 (by decide) ?_
      exact s_iret d_X11_isFigure_15 rfl (nar_z (Or.inr rfl)) ⟨_, rfl, hV⟩

theorem d_X11_isPlace_0 : decode i_X11_isPlace.2.1 0 = .ok (.iload_n 0, 1) := by decide +kernel
theorem d_X11_isPlace_1 : decode i_X11_isPlace.2.1 1 = .ok (.ifCond .lt 13, 3) := by decide +kernel
theorem d_X11_isPlace_4 : decode i_X11_isPlace.2.1 4 = .ok (.iload_n 0, 1) := by decide +kernel
theorem d_X11_isPlace_5 : decode i_X11_isPlace.2.1 5 = .ok (.bipush 60, 2) := by decide +kernel
theorem d_X11_isPlace_7 : decode i_X11_isPlace.2.1 7 = .ok (.if_icmp .ge 7, 3) := by decide +kernel
theorem d_X11_isPlace_10 : decode i_X11_isPlace.2.1 10 = .ok (.iconst 1, 1) := by decide +kernel
theorem d_X11_isPlace_11 : decode i_X11_isPlace.2.1 11 = .ok (.goto 4, 3) := by decide +kernel
theorem d_X11_isPlace_14 : decode i_X11_isPlace.2.1 14 = .ok (.iconst 0, 1) := by decide +kernel
theorem d_X11_isPlace_15 : decode i_X11_isPlace.2.1 15 = .ok (.ireturn, 1) := by decide +kernel
def V_X11_isPlace (x0 : Int) (h : Hp) (Q : Int → Hp → Prop) : Prop :=
  (x0 < 0 → (Q 0 h)) ∧ (¬ x0 < 0 → ((60 ≤ x0 → (Q 0 h)) ∧ (¬ 60 ≤ x0 → (Q 1 h))))
theorem G_X11_isPlace {x0 : Int} (h : Hp) (Q : Int → Hp → Prop) (hV : V_X11_isPlace x0 h Q) : C_X11_isPlace x0 h Q := by
  unfold V_X11_isPlace at hV
  show Go i_X11_isPlace 0 [(0, .inl x0)] [] h (qI Q)
  refine s_iload_n d_X11_isPlace_0 rfl (ma 0 rfl) ?_
  refine s_if_lt (tgt := 14) d_X11_isPlace_1 (by decide) (fun c => ?_) (fun c => ?_)
  · have hV := hV.1 c
    refine s_iconst d_X11_isPlace_14 (okn rfl) ?_
    exact s_iret d_X11_isPlace_15 rfl (nar_z (Or.inl rfl)) ⟨_, rfl, hV⟩
  · have hV := hV.2 c
    refine s_iload_n d_X11_isPlace_4 rfl (ma 0 rfl) ?_
    refine s_bipush d_X11_isPlace_5 (by decide) (okn rfl) ?_
    refine s_icmp_ge (tgt := 14) d_X11_isPlace_7 (by decide) (fun c => ?_) (fun c => ?_)
    · have hV := hV.1 c
      refine s_iconst d_X11_isPlace_14 (okn rfl) ?_
      exact s_iret d_X11_isPlace_15 rfl (nar_z (Or.inl rfl)) ⟨_, rfl, hV⟩
    · have hV := hV.2 c
      refine s_iconst d_X11_isPlace_10 (okn rfl) ?_
      refine s_goto (tgt := 15) d_X11_isPlace_11 (by decide) ?_
      exact s_iret d_X11_isPlace_15 rfl (nar_z (Or.inr rfl)) ⟨_, rfl, hV⟩

theorem d_X11_isTried_0 : decode i_X11_isTried.2.1 0 = .ok (.iload_n 0, 1) := by decide +kernel
theorem d_X11_isTried_1 : decode i_X11_isTried.2.1 1 = .ok (.invokestatic 169, 3) := by decide +kernel
theorem d_X11_isTried_4 : decode i_X11_isTried.2.1 4 = .ok (.ifCond .eq 17, 3) := by decide +kernel
theorem d_X11_isTried_7 : decode i_X11_isTried.2.1 7 = .ok (.iload_n 1, 1) := by decide +kernel
theorem d_X11_isTried_8 : decode i_X11_isTried.2.1 8 = .ok (.ifCond .lt 13, 3) := by decide +kernel
theorem d_X11_isTried_11 : decode i_X11_isTried.2.1 11 = .ok (.iload_n 1, 1) := by decide +kernel
theorem d_X11_isTried_12 : decode i_X11_isTried.2.1 12 = .ok (.bipush 8, 2) := by decide +kernel
theorem d_X11_isTried_14 : decode i_X11_isTried.2.1 14 = .ok (.if_icmp .gt 7, 3) := by decide +kernel
theorem d_X11_isTried_17 : decode i_X11_isTried.2.1 17 = .ok (.iconst 1, 1) := by decide +kernel
theorem d_X11_isTried_18 : decode i_X11_isTried.2.1 18 = .ok (.goto 4, 3) := by decide +kernel
theorem d_X11_isTried_21 : decode i_X11_isTried.2.1 21 = .ok (.iconst 0, 1) := by decide +kernel
theorem d_X11_isTried_22 : decode i_X11_isTried.2.1 22 = .ok (.ireturn, 1) := by decide +kernel
def V_X11_isTried (x0 : Int) (x1 : Int) (h : Hp) (Q : Int → Hp → Prop) : Prop :=
  C_X11_isKind x0 h (fun r2 h1 => ((r2 = 0 → (Q 0 h1)) ∧ (¬ r2 = 0 → ((x1 < 0 → (Q 0 h1)) ∧ (¬ x1 < 0 → ((8 < x1 → (Q 0 h1)) ∧ (¬ 8 < x1 → (Q 1 h1))))))))
theorem G_X11_isTried {x0 : Int} {x1 : Int} (h : Hp) (Q : Int → Hp → Prop) (hV : V_X11_isTried x0 x1 h Q) : C_X11_isTried x0 x1 h Q := by
  unfold V_X11_isTried at hV
  show Go i_X11_isTried 0 [(0, .inl x0), (1, .inl x1)] [] h (qI Q)
  refine s_iload_n d_X11_isTried_0 rfl (ma 0 rfl) ?_
  refine v_RX11_169 rfl (Nat.le_of_ble_eq_true rfl) d_X11_isTried_1 (Nat.le_of_ble_eq_true rfl) hV (fun r2 h1 hV => ?_)
  refine s_if_eq (tgt := 21) d_X11_isTried_4 (by decide) (fun c => ?_) (fun c => ?_)
  · have hV := hV.1 c
    refine s_iconst d_X11_isTried_21 (okn rfl) ?_
    exact s_iret d_X11_isTried_22 rfl (nar_z (Or.inl rfl)) ⟨_, rfl, hV⟩
  · have hV := hV.2 c
    refine s_iload_n d_X11_isTried_7 rfl (ma 1 rfl) ?_
    refine s_if_lt (tgt := 21) d_X11_isTried_8 (by decide) (fun c => ?_) (fun c => ?_)
    · have hV := hV.1 c
      refine s_iconst d_X11_isTried_21 (okn rfl) ?_
      exact s_iret d_X11_isTried_22 rfl (nar_z (Or.inl rfl)) ⟨_, rfl, hV⟩
    · have hV := hV.2 c
      refine s_iload_n d_X11_isTried_11 rfl (ma 1 rfl) ?_
      refine s_bipush d_X11_isTried_12 (by decide) (okn rfl) ?_
      refine s_icmp_gt (tgt := 21) d_X11_isTried_14 (by decide) (fun c => ?_) (fun c => ?_)
      · have hV := hV.1 c
        refine s_iconst d_X11_isTried_21 (okn rfl) ?_
        exact s_iret d_X11_isTried_22 rfl (nar_z (Or.inl rfl)) ⟨_, rfl, hV⟩
      · have hV := hV.2 c
        refine s_iconst d_X11_isTried_17 (okn rfl) ?_
        refine s_goto (tgt := 22) d_X11_isTried_18 (by decide) ?_
        exact s_iret d_X11_isTried_22 rfl (nar_z (Or.inr rfl)) ⟨_, rfl, hV⟩
