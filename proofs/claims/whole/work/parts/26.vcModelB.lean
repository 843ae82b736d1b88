/-! printed by wip/gen/gen.py: ModelB -/
theorem d_X12_word_0 : decode i_X12_word.2.1 0 = .ok (.aload_n 0, 1) := by decide +kernel
theorem d_X12_word_1 : decode i_X12_word.2.1 1 = .ok (.iload_n 1, 1) := by decide +kernel
theorem d_X12_word_2 : decode i_X12_word.2.1 2 = .ok (.invokevirtual 178, 3) := by decide +kernel
theorem d_X12_word_5 : decode i_X12_word.2.1 5 = .ok (.ifCond .ne 6, 3) := by decide +kernel
theorem d_X12_word_8 : decode i_X12_word.2.1 8 = .ok (.ldc 181, 2) := by decide +kernel
theorem d_X12_word_10 : decode i_X12_word.2.1 10 = .ok (.ireturn, 1) := by decide +kernel
theorem d_X12_word_11 : decode i_X12_word.2.1 11 = .ok (.aload_n 0, 1) := by decide +kernel
theorem d_X12_word_12 : decode i_X12_word.2.1 12 = .ok (.getfield 32, 3) := by decide +kernel
theorem d_X12_word_15 : decode i_X12_word.2.1 15 = .ok (.iconst 0, 1) := by decide +kernel
theorem d_X12_word_16 : decode i_X12_word.2.1 16 = .ok (.iaload, 1) := by decide +kernel
theorem d_X12_word_17 : decode i_X12_word.2.1 17 = .ok (.aload_n 0, 1) := by decide +kernel
theorem d_X12_word_18 : decode i_X12_word.2.1 18 = .ok (.getfield 26, 3) := by decide +kernel
theorem d_X12_word_21 : decode i_X12_word.2.1 21 = .ok (.iload_n 1, 1) := by decide +kernel
theorem d_X12_word_22 : decode i_X12_word.2.1 22 = .ok (.iaload, 1) := by decide +kernel
theorem d_X12_word_23 : decode i_X12_word.2.1 23 = .ok (.iadd, 1) := by decide +kernel
theorem d_X12_word_24 : decode i_X12_word.2.1 24 = .ok (.bipush 60, 2) := by decide +kernel
theorem d_X12_word_26 : decode i_X12_word.2.1 26 = .ok (.if_icmp .le 6, 3) := by decide +kernel
theorem d_X12_word_29 : decode i_X12_word.2.1 29 = .ok (.ldc 98, 2) := by decide +kernel
theorem d_X12_word_31 : decode i_X12_word.2.1 31 = .ok (.ireturn, 1) := by decide +kernel
theorem d_X12_word_32 : decode i_X12_word.2.1 32 = .ok (.aload_n 0, 1) := by decide +kernel
theorem d_X12_word_33 : decode i_X12_word.2.1 33 = .ok (.invokevirtual 212, 3) := by decide +kernel
theorem d_X12_word_36 : decode i_X12_word.2.1 36 = .ok (.aload_n 0, 1) := by decide +kernel
theorem d_X12_word_37 : decode i_X12_word.2.1 37 = .ok (.getfield 29, 3) := by decide +kernel
theorem d_X12_word_40 : decode i_X12_word.2.1 40 = .ok (.bipush 8, 2) := by decide +kernel
theorem d_X12_word_42 : decode i_X12_word.2.1 42 = .ok (.iload_n 1, 1) := by decide +kernel
theorem d_X12_word_43 : decode i_X12_word.2.1 43 = .ok (.imul, 1) := by decide +kernel
theorem d_X12_word_44 : decode i_X12_word.2.1 44 = .ok (.aload_n 0, 1) := by decide +kernel
theorem d_X12_word_45 : decode i_X12_word.2.1 45 = .ok (.getfield 32, 3) := by decide +kernel
theorem d_X12_word_48 : decode i_X12_word.2.1 48 = .ok (.iconst 3, 1) := by decide +kernel
theorem d_X12_word_49 : decode i_X12_word.2.1 49 = .ok (.aload_n 0, 1) := by decide +kernel
theorem d_X12_word_50 : decode i_X12_word.2.1 50 = .ok (.getfield 32, 3) := by decide +kernel
theorem d_X12_word_53 : decode i_X12_word.2.1 53 = .ok (.iconst 0, 1) := by decide +kernel
theorem d_X12_word_54 : decode i_X12_word.2.1 54 = .ok (.iaload, 1) := by decide +kernel
theorem d_X12_word_55 : decode i_X12_word.2.1 55 = .ok (.iadd, 1) := by decide +kernel
theorem d_X12_word_56 : decode i_X12_word.2.1 56 = .ok (.aload_n 0, 1) := by decide +kernel
theorem d_X12_word_57 : decode i_X12_word.2.1 57 = .ok (.getfield 26, 3) := by decide +kernel
theorem d_X12_word_60 : decode i_X12_word.2.1 60 = .ok (.iload_n 1, 1) := by decide +kernel
theorem d_X12_word_61 : decode i_X12_word.2.1 61 = .ok (.iaload, 1) := by decide +kernel
theorem d_X12_word_62 : decode i_X12_word.2.1 62 = .ok (.invokestatic 136, 3) := by decide +kernel
theorem d_X12_word_65 : decode i_X12_word.2.1 65 = .ok (.aload_n 0, 1) := by decide +kernel
theorem d_X12_word_66 : decode i_X12_word.2.1 66 = .ok (.getfield 32, 3) := by decide +kernel
theorem d_X12_word_69 : decode i_X12_word.2.1 69 = .ok (.iconst 0, 1) := by decide +kernel
theorem d_X12_word_70 : decode i_X12_word.2.1 70 = .ok (.dup2, 1) := by decide +kernel
theorem d_X12_word_71 : decode i_X12_word.2.1 71 = .ok (.iaload, 1) := by decide +kernel
theorem d_X12_word_72 : decode i_X12_word.2.1 72 = .ok (.aload_n 0, 1) := by decide +kernel
theorem d_X12_word_73 : decode i_X12_word.2.1 73 = .ok (.getfield 26, 3) := by decide +kernel
theorem d_X12_word_76 : decode i_X12_word.2.1 76 = .ok (.iload_n 1, 1) := by decide +kernel
theorem d_X12_word_77 : decode i_X12_word.2.1 77 = .ok (.iaload, 1) := by decide +kernel
theorem d_X12_word_78 : decode i_X12_word.2.1 78 = .ok (.iadd, 1) := by decide +kernel
theorem d_X12_word_79 : decode i_X12_word.2.1 79 = .ok (.iastore, 1) := by decide +kernel
theorem d_X12_word_80 : decode i_X12_word.2.1 80 = .ok (.aload_n 0, 1) := by decide +kernel
theorem d_X12_word_81 : decode i_X12_word.2.1 81 = .ok (.getfield 32, 3) := by decide +kernel
theorem d_X12_word_84 : decode i_X12_word.2.1 84 = .ok (.iconst 0, 1) := by decide +kernel
theorem d_X12_word_85 : decode i_X12_word.2.1 85 = .ok (.iaload, 1) := by decide +kernel
theorem d_X12_word_86 : decode i_X12_word.2.1 86 = .ok (.ireturn, 1) := by decide +kernel
def V_X12_word (x0 : Nat) (x1 : Int) (h : Hp) (Q : Int → Hp → Prop) : Prop :=
  hK h x0 = 11 ∧ C_X12_isWord x0 x1 h (fun r2 h1 => ((r2 ≠ 0 → (hK h1 x0 = 11 ∧ ((hK h1 (hR h1 x0 14) = 12 ∧ (0 : Int) ≤ 0 ∧ 0 < hL h1 (hR h1 x0 14)) ∧ (hK h1 x0 = 11 ∧ ((hK h1 (hR h1 x0 12) = 12 ∧ (0 : Int) ≤ x1 ∧ x1 < hL h1 (hR h1 x0 12)) ∧ (((-2147483648 : Int) ≤ (hI h1 (hR h1 x0 14) 0) + (hI h1 (hR h1 x0 12) x1) ∧ (hI h1 (hR h1 x0 14) 0) + (hI h1 (hR h1 x0 12) x1) ≤ (2147483647 : Int)) ∧ (((hI h1 (hR h1 x0 14) 0) + (hI h1 (hR h1 x0 12) x1) ≤ 60 → (hK h1 x0 = 11 ∧ C_X12_note x0  h1 (fun h3 => (hK h3 x0 = 11 ∧ (((-2147483648 : Int) ≤ 8 * x1 ∧ 8 * x1 ≤ (2147483647 : Int)) ∧ (hK h3 x0 = 11 ∧ (hK h3 x0 = 11 ∧ ((hK h3 (hR h3 x0 14) = 12 ∧ (0 : Int) ≤ 0 ∧ 0 < hL h3 (hR h3 x0 14)) ∧ (((-2147483648 : Int) ≤ 3 + (hI h3 (hR h3 x0 14) 0) ∧ 3 + (hI h3 (hR h3 x0 14) 0) ≤ (2147483647 : Int)) ∧ (hK h3 x0 = 11 ∧ ((hK h3 (hR h3 x0 12) = 12 ∧ (0 : Int) ≤ x1 ∧ x1 < hL h3 (hR h3 x0 12)) ∧ (C_X12_bring (hR h3 x0 13) (8 * x1) (hR h3 x0 14) (3 + (hI h3 (hR h3 x0 14) 0)) (hI h3 (hR h3 x0 12) x1) h3 (fun h4 => (hK h4 x0 = 11 ∧ ((hK h4 (hR h4 x0 14) = 12 ∧ (0 : Int) ≤ 0 ∧ 0 < hL h4 (hR h4 x0 14)) ∧ (hK h4 x0 = 11 ∧ ((hK h4 (hR h4 x0 12) = 12 ∧ (0 : Int) ≤ x1 ∧ x1 < hL h4 (hR h4 x0 12)) ∧ (((-2147483648 : Int) ≤ (hI h4 (hR h4 x0 14) 0) + (hI h4 (hR h4 x0 12) x1) ∧ (hI h4 (hR h4 x0 14) 0) + (hI h4 (hR h4 x0 12) x1) ≤ (2147483647 : Int)) ∧ ((hK h4 (hR h4 x0 14) = 12 ∧ (0 : Int) ≤ 0 ∧ 0 < hL h4 (hR h4 x0 14)) ∧ ∀ h5 : Hp, h5 = wI h4 (hR h4 x0 14) 0 ((hI h4 (hR h4 x0 14) 0) + (hI h4 (hR h4 x0 12) x1)) → (hK h5 x0 = 11 ∧ ((hK h5 (hR h5 x0 14) = 12 ∧ (0 : Int) ≤ 0 ∧ 0 < hL h5 (hR h5 x0 14)) ∧ (Q (hI h5 (hR h5 x0 14) 0) h5)))))))))))))))))))))) ∧ (¬ (hI h1 (hR h1 x0 14) 0) + (hI h1 (hR h1 x0 12) x1) ≤ 60 → (Q (-1000000004) h1))))))))) ∧ (r2 = 0 → (Q (-1000000001) h1))))
theorem G_X12_word {x0 : Nat} {x1 : Int} (h : Hp) (Q : Int → Hp → Prop) (hV : V_X12_word x0 x1 h Q) : C_X12_word x0 x1 h Q := by
  unfold V_X12_word at hV
  show Go i_X12_word 0 [(0, .inr (.inr x0)), (1, .inl x1)] [] h (qI Q)
  refine s_aload_n d_X12_word_0 rfl (ma 0 rfl) ?_
  refine s_iload_n d_X12_word_1 rfl (ma 1 rfl) ?_
  obtain ⟨o, hV⟩ := hV
  refine v_RX12_178 rfl (Nat.le_of_ble_eq_true rfl) d_X12_word_2 o (Nat.le_of_ble_eq_true rfl) hV (fun r2 h1 hV => ?_)
  refine s_if_ne (tgt := 11) d_X12_word_5 (by decide) (fun c => ?_) (fun c => ?_)
  · have hV := hV.1 c
    refine s_aload_n d_X12_word_11 rfl (ma 0 rfl) ?_
    obtain ⟨o, hV⟩ := hV
    refine f_RX12_32g rfl d_X12_word_12 o ?_
    refine s_iconst d_X12_word_15 (okn rfl) ?_
    obtain ⟨o, hV⟩ := hV
    refine s_iald d_X12_word_16 o.1 o.2.1 o.2.2 ?_
    refine s_aload_n d_X12_word_17 rfl (ma 0 rfl) ?_
    obtain ⟨o, hV⟩ := hV
    refine f_RX12_26g rfl d_X12_word_18 o ?_
    refine s_iload_n d_X12_word_21 rfl (ma 1 rfl) ?_
    obtain ⟨o, hV⟩ := hV
    refine s_iald d_X12_word_22 o.1 o.2.1 o.2.2 ?_
    obtain ⟨o, hV⟩ := hV
    refine s_iadd d_X12_word_23 o ?_
    refine s_bipush d_X12_word_24 (by decide) (okn rfl) ?_
    refine s_icmp_le (tgt := 32) d_X12_word_26 (by decide) (fun c => ?_) (fun c => ?_)
    · have hV := hV.1 c
      refine s_aload_n d_X12_word_32 rfl (ma 0 rfl) ?_
      obtain ⟨o, hV⟩ := hV
      refine v_RX12_212 rfl (Nat.le_of_ble_eq_true rfl) d_X12_word_33 o (Nat.le_of_ble_eq_true rfl) hV (fun h3 hV => ?_)
      refine s_aload_n d_X12_word_36 rfl (ma 0 rfl) ?_
      obtain ⟨o, hV⟩ := hV
      refine f_RX12_29g rfl d_X12_word_37 o ?_
      refine s_bipush d_X12_word_40 (by decide) (okn rfl) ?_
      refine s_iload_n d_X12_word_42 rfl (ma 1 rfl) ?_
      obtain ⟨o, hV⟩ := hV
      refine s_imul d_X12_word_43 o ?_
      refine s_aload_n d_X12_word_44 rfl (ma 0 rfl) ?_
      obtain ⟨o, hV⟩ := hV
      refine f_RX12_32g rfl d_X12_word_45 o ?_
      refine s_iconst d_X12_word_48 (okn rfl) ?_
      refine s_aload_n d_X12_word_49 rfl (ma 0 rfl) ?_
      obtain ⟨o, hV⟩ := hV
      refine f_RX12_32g rfl d_X12_word_50 o ?_
      refine s_iconst d_X12_word_53 (okn rfl) ?_
      obtain ⟨o, hV⟩ := hV
      refine s_iald d_X12_word_54 o.1 o.2.1 o.2.2 ?_
      obtain ⟨o, hV⟩ := hV
      refine s_iadd d_X12_word_55 o ?_
      refine s_aload_n d_X12_word_56 rfl (ma 0 rfl) ?_
      obtain ⟨o, hV⟩ := hV
      refine f_RX12_26g rfl d_X12_word_57 o ?_
      refine s_iload_n d_X12_word_60 rfl (ma 1 rfl) ?_
      obtain ⟨o, hV⟩ := hV
      refine s_iald d_X12_word_61 o.1 o.2.1 o.2.2 ?_
      refine v_RX12_136 rfl (Nat.le_of_ble_eq_true rfl) d_X12_word_62 (Nat.le_of_ble_eq_true rfl) hV (fun h4 hV => ?_)
      refine s_aload_n d_X12_word_65 rfl (ma 0 rfl) ?_
      obtain ⟨o, hV⟩ := hV
      refine f_RX12_32g rfl d_X12_word_66 o ?_
      refine s_iconst d_X12_word_69 (okn rfl) ?_
      refine s_dup2 d_X12_word_70 rfl rfl ?_
      obtain ⟨o, hV⟩ := hV
      refine s_iald d_X12_word_71 o.1 o.2.1 o.2.2 ?_
      refine s_aload_n d_X12_word_72 rfl (ma 0 rfl) ?_
      obtain ⟨o, hV⟩ := hV
      refine f_RX12_26g rfl d_X12_word_73 o ?_
      refine s_iload_n d_X12_word_76 rfl (ma 1 rfl) ?_
      obtain ⟨o, hV⟩ := hV
      refine s_iald d_X12_word_77 o.1 o.2.1 o.2.2 ?_
      obtain ⟨o, hV⟩ := hV
      refine s_iadd d_X12_word_78 o ?_
      obtain ⟨o, hV⟩ := hV
      refine s_iast d_X12_word_79 o.1 o.2.1 o.2.2 ?_
      refine s_nmH (fun h5 eh5 => ?_)
      have hV := hV h5 eh5
      refine s_aload_n d_X12_word_80 rfl (ma 0 rfl) ?_
      obtain ⟨o, hV⟩ := hV
      refine f_RX12_32g rfl d_X12_word_81 o ?_
      refine s_iconst d_X12_word_84 (okn rfl) ?_
      obtain ⟨o, hV⟩ := hV
      refine s_iald d_X12_word_85 o.1 o.2.1 o.2.2 ?_
      exact s_iret d_X12_word_86 rfl rfl ⟨_, rfl, hV⟩
    · have hV := hV.2 c
      refine s_ldc (n := (-1000000004)) d_X12_word_29 k_RX12_98 (by decide) (okn rfl) ?_
      exact s_iret d_X12_word_31 rfl rfl ⟨_, rfl, hV⟩
  · have hV := hV.2 c
    refine s_ldc (n := (-1000000001)) d_X12_word_8 k_RX12_181 (by decide) (okn rfl) ?_
    exact s_iret d_X12_word_10 rfl rfl ⟨_, rfl, hV⟩

theorem d_X12_change_0 : decode i_X12_change.2.1 0 = .ok (.iload_n 1, 1) := by decide +kernel
theorem d_X12_change_1 : decode i_X12_change.2.1 1 = .ok (.iconst 0, 1) := by decide +kernel
theorem d_X12_change_2 : decode i_X12_change.2.1 2 = .ok (.aload_n 0, 1) := by decide +kernel
theorem d_X12_change_3 : decode i_X12_change.2.1 3 = .ok (.getfield 32, 3) := by decide +kernel
theorem d_X12_change_6 : decode i_X12_change.2.1 6 = .ok (.iconst 0, 1) := by decide +kernel
theorem d_X12_change_7 : decode i_X12_change.2.1 7 = .ok (.iaload, 1) := by decide +kernel
theorem d_X12_change_8 : decode i_X12_change.2.1 8 = .ok (.iconst 1, 1) := by decide +kernel
theorem d_X12_change_9 : decode i_X12_change.2.1 9 = .ok (.isub, 1) := by decide +kernel
theorem d_X12_change_10 : decode i_X12_change.2.1 10 = .ok (.invokestatic 90, 3) := by decide +kernel
theorem d_X12_change_13 : decode i_X12_change.2.1 13 = .ok (.ifCond .ne 6, 3) := by decide +kernel
theorem d_X12_change_16 : decode i_X12_change.2.1 16 = .ok (.ldc 181, 2) := by decide +kernel
theorem d_X12_change_18 : decode i_X12_change.2.1 18 = .ok (.ireturn, 1) := by decide +kernel
theorem d_X12_change_19 : decode i_X12_change.2.1 19 = .ok (.iload_n 2, 1) := by decide +kernel
theorem d_X12_change_20 : decode i_X12_change.2.1 20 = .ok (.iconst 0, 1) := by decide +kernel
theorem d_X12_change_21 : decode i_X12_change.2.1 21 = .ok (.bipush 9, 2) := by decide +kernel
theorem d_X12_change_23 : decode i_X12_change.2.1 23 = .ok (.invokestatic 90, 3) := by decide +kernel
theorem d_X12_change_26 : decode i_X12_change.2.1 26 = .ok (.ifCond .ne 6, 3) := by decide +kernel
theorem d_X12_change_29 : decode i_X12_change.2.1 29 = .ok (.ldc 94, 2) := by decide +kernel
theorem d_X12_change_31 : decode i_X12_change.2.1 31 = .ok (.ireturn, 1) := by decide +kernel
theorem d_X12_change_32 : decode i_X12_change.2.1 32 = .ok (.aload_n 0, 1) := by decide +kernel
theorem d_X12_change_33 : decode i_X12_change.2.1 33 = .ok (.invokevirtual 212, 3) := by decide +kernel
theorem d_X12_change_36 : decode i_X12_change.2.1 36 = .ok (.aload_n 0, 1) := by decide +kernel
theorem d_X12_change_37 : decode i_X12_change.2.1 37 = .ok (.getfield 32, 3) := by decide +kernel
theorem d_X12_change_40 : decode i_X12_change.2.1 40 = .ok (.iconst 3, 1) := by decide +kernel
theorem d_X12_change_41 : decode i_X12_change.2.1 41 = .ok (.iload_n 1, 1) := by decide +kernel
theorem d_X12_change_42 : decode i_X12_change.2.1 42 = .ok (.iadd, 1) := by decide +kernel
theorem d_X12_change_43 : decode i_X12_change.2.1 43 = .ok (.iaload, 1) := by decide +kernel
theorem d_X12_change_44 : decode i_X12_change.2.1 44 = .ok (.istore_n 3, 1) := by decide +kernel
theorem d_X12_change_45 : decode i_X12_change.2.1 45 = .ok (.aload_n 0, 1) := by decide +kernel
theorem d_X12_change_46 : decode i_X12_change.2.1 46 = .ok (.getfield 32, 3) := by decide +kernel
theorem d_X12_change_49 : decode i_X12_change.2.1 49 = .ok (.iconst 3, 1) := by decide +kernel
theorem d_X12_change_50 : decode i_X12_change.2.1 50 = .ok (.iload_n 1, 1) := by decide +kernel
theorem d_X12_change_51 : decode i_X12_change.2.1 51 = .ok (.iadd, 1) := by decide +kernel
theorem d_X12_change_52 : decode i_X12_change.2.1 52 = .ok (.iload_n 2, 1) := by decide +kernel
theorem d_X12_change_53 : decode i_X12_change.2.1 53 = .ok (.iastore, 1) := by decide +kernel
theorem d_X12_change_54 : decode i_X12_change.2.1 54 = .ok (.iload_n 3, 1) := by decide +kernel
theorem d_X12_change_55 : decode i_X12_change.2.1 55 = .ok (.ireturn, 1) := by decide +kernel
def V_X12_change (x0 : Nat) (x1 : Int) (x2 : Int) (h : Hp) (Q : Int → Hp → Prop) : Prop :=
  hK h x0 = 11 ∧ ((hK h (hR h x0 14) = 12 ∧ (0 : Int) ≤ 0 ∧ 0 < hL h (hR h x0 14)) ∧ (((-2147483648 : Int) ≤ (hI h (hR h x0 14) 0) - 1 ∧ (hI h (hR h x0 14) 0) - 1 ≤ (2147483647 : Int)) ∧ (C_X12_is x1 0 ((hI h (hR h x0 14) 0) - 1) h (fun r2 h1 => ((r2 ≠ 0 → (C_X12_is x2 0 9 h1 (fun r4 h3 => ((r4 ≠ 0 → (hK h3 x0 = 11 ∧ C_X12_note x0  h3 (fun h5 => (hK h5 x0 = 11 ∧ (((-2147483648 : Int) ≤ 3 + x1 ∧ 3 + x1 ≤ (2147483647 : Int)) ∧ ((hK h5 (hR h5 x0 14) = 12 ∧ (0 : Int) ≤ 3 + x1 ∧ 3 + x1 < hL h5 (hR h5 x0 14)) ∧ (∀ x3_6 : Int, x3_6 = hI h5 (hR h5 x0 14) (3 + x1) → (hK h5 x0 = 11 ∧ (((-2147483648 : Int) ≤ 3 + x1 ∧ 3 + x1 ≤ (2147483647 : Int)) ∧ ((hK h5 (hR h5 x0 14) = 12 ∧ (0 : Int) ≤ 3 + x1 ∧ 3 + x1 < hL h5 (hR h5 x0 14)) ∧ ∀ h7 : Hp, h7 = wI h5 (hR h5 x0 14) (3 + x1) x2 → (Q x3_6 h7))))))))))) ∧ (r4 = 0 → (Q (-1000000002) h3)))))) ∧ (r2 = 0 → (Q (-1000000001) h1)))))))
theorem G_X12_change {x0 : Nat} {x1 : Int} {x2 : Int} (h : Hp) (Q : Int → Hp → Prop) (hV : V_X12_change x0 x1 x2 h Q) : C_X12_change x0 x1 x2 h Q := by
  unfold V_X12_change at hV
  show Go i_X12_change 0 [(0, .inr (.inr x0)), (1, .inl x1), (2, .inl x2)] [] h (qI Q)
  refine s_iload_n d_X12_change_0 rfl (ma 1 rfl) ?_
  refine s_iconst d_X12_change_1 (okn rfl) ?_
  refine s_aload_n d_X12_change_2 rfl (ma 0 rfl) ?_
  obtain ⟨o, hV⟩ := hV
  refine f_RX12_32g rfl d_X12_change_3 o ?_
  refine s_iconst d_X12_change_6 (okn rfl) ?_
  obtain ⟨o, hV⟩ := hV
  refine s_iald d_X12_change_7 o.1 o.2.1 o.2.2 ?_
  refine s_iconst d_X12_change_8 (okn rfl) ?_
  obtain ⟨o, hV⟩ := hV
  refine s_isub d_X12_change_9 o ?_
  refine v_RX12_90 rfl (Nat.le_of_ble_eq_true rfl) d_X12_change_10 (Nat.le_of_ble_eq_true rfl) hV (fun r2 h1 hV => ?_)
  refine s_if_ne (tgt := 19) d_X12_change_13 (by decide) (fun c => ?_) (fun c => ?_)
  · have hV := hV.1 c
    refine s_iload_n d_X12_change_19 rfl (ma 2 rfl) ?_
    refine s_iconst d_X12_change_20 (okn rfl) ?_
    refine s_bipush d_X12_change_21 (by decide) (okn rfl) ?_
    refine v_RX12_90 rfl (Nat.le_of_ble_eq_true rfl) d_X12_change_23 (Nat.le_of_ble_eq_true rfl) hV (fun r4 h3 hV => ?_)
    refine s_if_ne (tgt := 32) d_X12_change_26 (by decide) (fun c => ?_) (fun c => ?_)
    · have hV := hV.1 c
      refine s_aload_n d_X12_change_32 rfl (ma 0 rfl) ?_
      obtain ⟨o, hV⟩ := hV
      refine v_RX12_212 rfl (Nat.le_of_ble_eq_true rfl) d_X12_change_33 o (Nat.le_of_ble_eq_true rfl) hV (fun h5 hV => ?_)
      refine s_aload_n d_X12_change_36 rfl (ma 0 rfl) ?_
      obtain ⟨o, hV⟩ := hV
      refine f_RX12_32g rfl d_X12_change_37 o ?_
      refine s_iconst d_X12_change_40 (okn rfl) ?_
      refine s_iload_n d_X12_change_41 rfl (ma 1 rfl) ?_
      obtain ⟨o, hV⟩ := hV
      refine s_iadd d_X12_change_42 o ?_
      obtain ⟨o, hV⟩ := hV
      refine s_iald d_X12_change_43 o.1 o.2.1 o.2.2 ?_
      refine s_nmI (fun x3_6 ex3_6 => ?_)
      have hV := hV x3_6 ex3_6
      refine s_istore_n (lv' := [(3, .inl x3_6), (0, .inr (.inr x0)), (1, .inl x1), (2, .inl x2)]) d_X12_change_44 rfl (Nat.le_of_ble_eq_true rfl) rfl ?_
      refine s_aload_n d_X12_change_45 rfl (ma 1 rfl) ?_
      obtain ⟨o, hV⟩ := hV
      refine f_RX12_32g rfl d_X12_change_46 o ?_
      refine s_iconst d_X12_change_49 (okn rfl) ?_
      refine s_iload_n d_X12_change_50 rfl (ma 2 rfl) ?_
      obtain ⟨o, hV⟩ := hV
      refine s_iadd d_X12_change_51 o ?_
      refine s_iload_n d_X12_change_52 rfl (ma 3 rfl) ?_
      obtain ⟨o, hV⟩ := hV
      refine s_iast d_X12_change_53 o.1 o.2.1 o.2.2 ?_
      refine s_nmH (fun h7 eh7 => ?_)
      have hV := hV h7 eh7
      refine s_iload_n d_X12_change_54 rfl (ma 0 rfl) ?_
      exact s_iret d_X12_change_55 rfl rfl ⟨_, rfl, hV⟩
    · have hV := hV.2 c
      refine s_ldc (n := (-1000000002)) d_X12_change_29 k_RX12_94 (by decide) (okn rfl) ?_
      exact s_iret d_X12_change_31 rfl rfl ⟨_, rfl, hV⟩
  · have hV := hV.2 c
    refine s_ldc (n := (-1000000001)) d_X12_change_16 k_RX12_181 (by decide) (okn rfl) ?_
    exact s_iret d_X12_change_18 rfl rfl ⟨_, rfl, hV⟩

theorem d_X12_drop_0 : decode i_X12_drop.2.1 0 = .ok (.iload_n 1, 1) := by decide +kernel
theorem d_X12_drop_1 : decode i_X12_drop.2.1 1 = .ok (.iconst 0, 1) := by decide +kernel
theorem d_X12_drop_2 : decode i_X12_drop.2.1 2 = .ok (.aload_n 0, 1) := by decide +kernel
theorem d_X12_drop_3 : decode i_X12_drop.2.1 3 = .ok (.getfield 32, 3) := by decide +kernel
theorem d_X12_drop_6 : decode i_X12_drop.2.1 6 = .ok (.iconst 0, 1) := by decide +kernel
theorem d_X12_drop_7 : decode i_X12_drop.2.1 7 = .ok (.iaload, 1) := by decide +kernel
theorem d_X12_drop_8 : decode i_X12_drop.2.1 8 = .ok (.invokestatic 90, 3) := by decide +kernel
theorem d_X12_drop_11 : decode i_X12_drop.2.1 11 = .ok (.ifCond .ne 6, 3) := by decide +kernel
theorem d_X12_drop_14 : decode i_X12_drop.2.1 14 = .ok (.ldc 94, 2) := by decide +kernel
theorem d_X12_drop_16 : decode i_X12_drop.2.1 16 = .ok (.ireturn, 1) := by decide +kernel
theorem d_X12_drop_17 : decode i_X12_drop.2.1 17 = .ok (.aload_n 0, 1) := by decide +kernel
theorem d_X12_drop_18 : decode i_X12_drop.2.1 18 = .ok (.invokevirtual 212, 3) := by decide +kernel
theorem d_X12_drop_21 : decode i_X12_drop.2.1 21 = .ok (.aload_n 0, 1) := by decide +kernel
theorem d_X12_drop_22 : decode i_X12_drop.2.1 22 = .ok (.getfield 32, 3) := by decide +kernel
theorem d_X12_drop_25 : decode i_X12_drop.2.1 25 = .ok (.iconst 0, 1) := by decide +kernel
theorem d_X12_drop_26 : decode i_X12_drop.2.1 26 = .ok (.dup2, 1) := by decide +kernel
theorem d_X12_drop_27 : decode i_X12_drop.2.1 27 = .ok (.iaload, 1) := by decide +kernel
theorem d_X12_drop_28 : decode i_X12_drop.2.1 28 = .ok (.iload_n 1, 1) := by decide +kernel
theorem d_X12_drop_29 : decode i_X12_drop.2.1 29 = .ok (.isub, 1) := by decide +kernel
theorem d_X12_drop_30 : decode i_X12_drop.2.1 30 = .ok (.iastore, 1) := by decide +kernel
theorem d_X12_drop_31 : decode i_X12_drop.2.1 31 = .ok (.aload_n 0, 1) := by decide +kernel
theorem d_X12_drop_32 : decode i_X12_drop.2.1 32 = .ok (.getfield 32, 3) := by decide +kernel
theorem d_X12_drop_35 : decode i_X12_drop.2.1 35 = .ok (.iconst 0, 1) := by decide +kernel
theorem d_X12_drop_36 : decode i_X12_drop.2.1 36 = .ok (.iaload, 1) := by decide +kernel
theorem d_X12_drop_37 : decode i_X12_drop.2.1 37 = .ok (.ireturn, 1) := by decide +kernel
def V_X12_drop (x0 : Nat) (x1 : Int) (h : Hp) (Q : Int → Hp → Prop) : Prop :=
  hK h x0 = 11 ∧ ((hK h (hR h x0 14) = 12 ∧ (0 : Int) ≤ 0 ∧ 0 < hL h (hR h x0 14)) ∧ (C_X12_is x1 0 (hI h (hR h x0 14) 0) h (fun r2 h1 => ((r2 ≠ 0 → (hK h1 x0 = 11 ∧ C_X12_note x0  h1 (fun h3 => (hK h3 x0 = 11 ∧ ((hK h3 (hR h3 x0 14) = 12 ∧ (0 : Int) ≤ 0 ∧ 0 < hL h3 (hR h3 x0 14)) ∧ (((-2147483648 : Int) ≤ (hI h3 (hR h3 x0 14) 0) - x1 ∧ (hI h3 (hR h3 x0 14) 0) - x1 ≤ (2147483647 : Int)) ∧ ((hK h3 (hR h3 x0 14) = 12 ∧ (0 : Int) ≤ 0 ∧ 0 < hL h3 (hR h3 x0 14)) ∧ ∀ h4 : Hp, h4 = wI h3 (hR h3 x0 14) 0 ((hI h3 (hR h3 x0 14) 0) - x1) → (hK h4 x0 = 11 ∧ ((hK h4 (hR h4 x0 14) = 12 ∧ (0 : Int) ≤ 0 ∧ 0 < hL h4 (hR h4 x0 14)) ∧ (Q (hI h4 (hR h4 x0 14) 0) h4)))))))))) ∧ (r2 = 0 → (Q (-1000000002) h1))))))
theorem G_X12_drop {x0 : Nat} {x1 : Int} (h : Hp) (Q : Int → Hp → Prop) (hV : V_X12_drop x0 x1 h Q) : C_X12_drop x0 x1 h Q := by
  unfold V_X12_drop at hV
  show Go i_X12_drop 0 [(0, .inr (.inr x0)), (1, .inl x1)] [] h (qI Q)
  refine s_iload_n d_X12_drop_0 rfl (ma 1 rfl) ?_
  refine s_iconst d_X12_drop_1 (okn rfl) ?_
  refine s_aload_n d_X12_drop_2 rfl (ma 0 rfl) ?_
  obtain ⟨o, hV⟩ := hV
  refine f_RX12_32g rfl d_X12_drop_3 o ?_
  refine s_iconst d_X12_drop_6 (okn rfl) ?_
  obtain ⟨o, hV⟩ := hV
  refine s_iald d_X12_drop_7 o.1 o.2.1 o.2.2 ?_
  refine v_RX12_90 rfl (Nat.le_of_ble_eq_true rfl) d_X12_drop_8 (Nat.le_of_ble_eq_true rfl) hV (fun r2 h1 hV => ?_)
  refine s_if_ne (tgt := 17) d_X12_drop_11 (by decide) (fun c => ?_) (fun c => ?_)
  · have hV := hV.1 c
    refine s_aload_n d_X12_drop_17 rfl (ma 0 rfl) ?_
    obtain ⟨o, hV⟩ := hV
    refine v_RX12_212 rfl (Nat.le_of_ble_eq_true rfl) d_X12_drop_18 o (Nat.le_of_ble_eq_true rfl) hV (fun h3 hV => ?_)
    refine s_aload_n d_X12_drop_21 rfl (ma 0 rfl) ?_
    obtain ⟨o, hV⟩ := hV
    refine f_RX12_32g rfl d_X12_drop_22 o ?_
    refine s_iconst d_X12_drop_25 (okn rfl) ?_
    refine s_dup2 d_X12_drop_26 rfl rfl ?_
    obtain ⟨o, hV⟩ := hV
    refine s_iald d_X12_drop_27 o.1 o.2.1 o.2.2 ?_
    refine s_iload_n d_X12_drop_28 rfl (ma 1 rfl) ?_
    obtain ⟨o, hV⟩ := hV
    refine s_isub d_X12_drop_29 o ?_
    obtain ⟨o, hV⟩ := hV
    refine s_iast d_X12_drop_30 o.1 o.2.1 o.2.2 ?_
    refine s_nmH (fun h4 eh4 => ?_)
    have hV := hV h4 eh4
    refine s_aload_n d_X12_drop_31 rfl (ma 0 rfl) ?_
    obtain ⟨o, hV⟩ := hV
    refine f_RX12_32g rfl d_X12_drop_32 o ?_
    refine s_iconst d_X12_drop_35 (okn rfl) ?_
    obtain ⟨o, hV⟩ := hV
    refine s_iald d_X12_drop_36 o.1 o.2.1 o.2.2 ?_
    exact s_iret d_X12_drop_37 rfl rfl ⟨_, rfl, hV⟩
  · have hV := hV.2 c
    refine s_ldc (n := (-1000000002)) d_X12_drop_14 k_RX12_94 (by decide) (okn rfl) ?_
    exact s_iret d_X12_drop_16 rfl rfl ⟨_, rfl, hV⟩

theorem d_X12_turn_0 : decode i_X12_turn.2.1 0 = .ok (.aload_n 0, 1) := by decide +kernel
theorem d_X12_turn_1 : decode i_X12_turn.2.1 1 = .ok (.invokevirtual 212, 3) := by decide +kernel
theorem d_X12_turn_4 : decode i_X12_turn.2.1 4 = .ok (.aload_n 0, 1) := by decide +kernel
theorem d_X12_turn_5 : decode i_X12_turn.2.1 5 = .ok (.getfield 32, 3) := by decide +kernel
theorem d_X12_turn_8 : decode i_X12_turn.2.1 8 = .ok (.iconst 0, 1) := by decide +kernel
theorem d_X12_turn_9 : decode i_X12_turn.2.1 9 = .ok (.iaload, 1) := by decide +kernel
theorem d_X12_turn_10 : decode i_X12_turn.2.1 10 = .ok (.istore_n 1, 1) := by decide +kernel
theorem d_X12_turn_11 : decode i_X12_turn.2.1 11 = .ok (.iconst 0, 1) := by decide +kernel
theorem d_X12_turn_12 : decode i_X12_turn.2.1 12 = .ok (.istore_n 2, 1) := by decide +kernel
theorem d_X12_turn_13 : decode i_X12_turn.2.1 13 = .ok (.iload_n 2, 1) := by decide +kernel
theorem d_X12_turn_14 : decode i_X12_turn.2.1 14 = .ok (.iload_n 1, 1) := by decide +kernel
theorem d_X12_turn_15 : decode i_X12_turn.2.1 15 = .ok (.iconst 2, 1) := by decide +kernel
theorem d_X12_turn_16 : decode i_X12_turn.2.1 16 = .ok (.idiv, 1) := by decide +kernel
theorem d_X12_turn_17 : decode i_X12_turn.2.1 17 = .ok (.if_icmp .ge 51, 3) := by decide +kernel
theorem d_X12_turn_20 : decode i_X12_turn.2.1 20 = .ok (.aload_n 0, 1) := by decide +kernel
theorem d_X12_turn_21 : decode i_X12_turn.2.1 21 = .ok (.getfield 32, 3) := by decide +kernel
theorem d_X12_turn_24 : decode i_X12_turn.2.1 24 = .ok (.iconst 3, 1) := by decide +kernel
theorem d_X12_turn_25 : decode i_X12_turn.2.1 25 = .ok (.iload_n 2, 1) := by decide +kernel
theorem d_X12_turn_26 : decode i_X12_turn.2.1 26 = .ok (.iadd, 1) := by decide +kernel
theorem d_X12_turn_27 : decode i_X12_turn.2.1 27 = .ok (.iaload, 1) := by decide +kernel
theorem d_X12_turn_28 : decode i_X12_turn.2.1 28 = .ok (.istore_n 3, 1) := by decide +kernel
theorem d_X12_turn_29 : decode i_X12_turn.2.1 29 = .ok (.aload_n 0, 1) := by decide +kernel
theorem d_X12_turn_30 : decode i_X12_turn.2.1 30 = .ok (.getfield 32, 3) := by decide +kernel
theorem d_X12_turn_33 : decode i_X12_turn.2.1 33 = .ok (.iconst 3, 1) := by decide +kernel
theorem d_X12_turn_34 : decode i_X12_turn.2.1 34 = .ok (.iload_n 2, 1) := by decide +kernel
theorem d_X12_turn_35 : decode i_X12_turn.2.1 35 = .ok (.iadd, 1) := by decide +kernel
theorem d_X12_turn_36 : decode i_X12_turn.2.1 36 = .ok (.aload_n 0, 1) := by decide +kernel
theorem d_X12_turn_37 : decode i_X12_turn.2.1 37 = .ok (.getfield 32, 3) := by decide +kernel
theorem d_X12_turn_40 : decode i_X12_turn.2.1 40 = .ok (.iconst 3, 1) := by decide +kernel
theorem d_X12_turn_41 : decode i_X12_turn.2.1 41 = .ok (.iload_n 1, 1) := by decide +kernel
theorem d_X12_turn_42 : decode i_X12_turn.2.1 42 = .ok (.iadd, 1) := by decide +kernel
theorem d_X12_turn_43 : decode i_X12_turn.2.1 43 = .ok (.iconst 1, 1) := by decide +kernel
theorem d_X12_turn_44 : decode i_X12_turn.2.1 44 = .ok (.isub, 1) := by decide +kernel
theorem d_X12_turn_45 : decode i_X12_turn.2.1 45 = .ok (.iload_n 2, 1) := by decide +kernel
theorem d_X12_turn_46 : decode i_X12_turn.2.1 46 = .ok (.isub, 1) := by decide +kernel
theorem d_X12_turn_47 : decode i_X12_turn.2.1 47 = .ok (.iaload, 1) := by decide +kernel
theorem d_X12_turn_48 : decode i_X12_turn.2.1 48 = .ok (.iastore, 1) := by decide +kernel
theorem d_X12_turn_49 : decode i_X12_turn.2.1 49 = .ok (.aload_n 0, 1) := by decide +kernel
theorem d_X12_turn_50 : decode i_X12_turn.2.1 50 = .ok (.getfield 32, 3) := by decide +kernel
theorem d_X12_turn_53 : decode i_X12_turn.2.1 53 = .ok (.iconst 3, 1) := by decide +kernel
theorem d_X12_turn_54 : decode i_X12_turn.2.1 54 = .ok (.iload_n 1, 1) := by decide +kernel
theorem d_X12_turn_55 : decode i_X12_turn.2.1 55 = .ok (.iadd, 1) := by decide +kernel
theorem d_X12_turn_56 : decode i_X12_turn.2.1 56 = .ok (.iconst 1, 1) := by decide +kernel
theorem d_X12_turn_57 : decode i_X12_turn.2.1 57 = .ok (.isub, 1) := by decide +kernel
theorem d_X12_turn_58 : decode i_X12_turn.2.1 58 = .ok (.iload_n 2, 1) := by decide +kernel
theorem d_X12_turn_59 : decode i_X12_turn.2.1 59 = .ok (.isub, 1) := by decide +kernel
theorem d_X12_turn_60 : decode i_X12_turn.2.1 60 = .ok (.iload_n 3, 1) := by decide +kernel
theorem d_X12_turn_61 : decode i_X12_turn.2.1 61 = .ok (.iastore, 1) := by decide +kernel
theorem d_X12_turn_62 : decode i_X12_turn.2.1 62 = .ok (.iinc 2 1, 3) := by decide +kernel
theorem d_X12_turn_65 : decode i_X12_turn.2.1 65 = .ok (.goto (-52), 3) := by decide +kernel
theorem d_X12_turn_68 : decode i_X12_turn.2.1 68 = .ok (.aload_n 0, 1) := by decide +kernel
theorem d_X12_turn_69 : decode i_X12_turn.2.1 69 = .ok (.iconst 0, 1) := by decide +kernel
theorem d_X12_turn_70 : decode i_X12_turn.2.1 70 = .ok (.invokevirtual 175, 3) := by decide +kernel
theorem d_X12_turn_73 : decode i_X12_turn.2.1 73 = .ok (.ireturn, 1) := by decide +kernel
def BLp_X12_turn_13 (x0 : Nat) (x1 : Int) (P13 : Int → Hp → Prop) (x2 : Int) (h : Hp) (Q : Int → Hp → Prop) : Prop :=
  ((0 : Int) ≤ x1 ∧ (0 : Int) < 2) ∧ ((x1 / 2 ≤ x2 → (hK h x0 = 11 ∧ C_X12_figureAt x0 0 h (fun r2 h1 => (Q r2 h1)))) ∧ (¬ x1 / 2 ≤ x2 → (hK h x0 = 11 ∧ (((-2147483648 : Int) ≤ 3 + x2 ∧ 3 + x2 ≤ (2147483647 : Int)) ∧ ((hK h (hR h x0 14) = 12 ∧ (0 : Int) ≤ 3 + x2 ∧ 3 + x2 < hL h (hR h x0 14)) ∧ (∀ x3_3 : Int, x3_3 = hI h (hR h x0 14) (3 + x2) → (hK h x0 = 11 ∧ (((-2147483648 : Int) ≤ 3 + x2 ∧ 3 + x2 ≤ (2147483647 : Int)) ∧ (hK h x0 = 11 ∧ (((-2147483648 : Int) ≤ 3 + x1 ∧ 3 + x1 ≤ (2147483647 : Int)) ∧ (((-2147483648 : Int) ≤ (3 + x1) - 1 ∧ (3 + x1) - 1 ≤ (2147483647 : Int)) ∧ (((-2147483648 : Int) ≤ ((3 + x1) - 1) - x2 ∧ ((3 + x1) - 1) - x2 ≤ (2147483647 : Int)) ∧ ((hK h (hR h x0 14) = 12 ∧ (0 : Int) ≤ ((3 + x1) - 1) - x2 ∧ ((3 + x1) - 1) - x2 < hL h (hR h x0 14)) ∧ ((hK h (hR h x0 14) = 12 ∧ (0 : Int) ≤ 3 + x2 ∧ 3 + x2 < hL h (hR h x0 14)) ∧ ∀ h4 : Hp, h4 = wI h (hR h x0 14) (3 + x2) (hI h (hR h x0 14) (((3 + x1) - 1) - x2)) → (hK h4 x0 = 11 ∧ (((-2147483648 : Int) ≤ 3 + x1 ∧ 3 + x1 ≤ (2147483647 : Int)) ∧ (((-2147483648 : Int) ≤ (3 + x1) - 1 ∧ (3 + x1) - 1 ≤ (2147483647 : Int)) ∧ (((-2147483648 : Int) ≤ ((3 + x1) - 1) - x2 ∧ ((3 + x1) - 1) - x2 ≤ (2147483647 : Int)) ∧ ((hK h4 (hR h4 x0 14) = 12 ∧ (0 : Int) ≤ ((3 + x1) - 1) - x2 ∧ ((3 + x1) - 1) - x2 < hL h4 (hR h4 x0 14)) ∧ ∀ h5 : Hp, h5 = wI h4 (hR h4 x0 14) (((3 + x1) - 1) - x2) x3_3 → (((-2147483648 : Int) ≤ x2 + 1 ∧ x2 + 1 ≤ (2147483647 : Int)) ∧ (P13 (x2 + 1) h5)))))))))))))))))))))
def Lp_X12_turn_13 (x0 : Nat) (x1 : Int) (x2 : Int) (h : Hp) (Q : Int → Hp → Prop) : Prop := ∀ P13 : Int → Hp → Prop, (∀ (x2 : Int) (h : Hp), BLp_X12_turn_13 x0 x1 P13 x2 h Q → P13 x2 h) → P13 x2 h
theorem Lp_X12_turn_13_ind {x0 : Nat} {x1 : Int} {Q : Int → Hp → Prop} (I : Int → Hp → Prop) (μ : Int → Hp → Nat) (hs : ∀ (P13 : Int → Hp → Prop) (x2 : Int) (h : Hp), I x2 h → (∀ (x2' : Int) (h' : Hp), I x2' h' → μ x2' h' < μ x2 h → P13 x2' h') → BLp_X12_turn_13 x0 x1 P13 x2 h Q) : ∀ (x2 : Int) (h : Hp), I x2 h → Lp_X12_turn_13 x0 x1 x2 h Q := by
  intro x2 h hI P13 hP
  have key : ∀ (n : Nat) (x2 : Int) (h : Hp), I x2 h → μ x2 h < n → P13 x2 h := by
    intro n
    induction n with
    | zero => intro x2 h _ hl; exact absurd hl (Nat.not_lt_zero _)
    | succ n ih => intro x2 h hi hl; exact hP x2 h (hs P13 x2 h hi (fun x2 h' hi' hl' => ih x2 h' hi' (by omega)))
  exact key _ x2 h hI (Nat.lt_succ_self _)
theorem GLp_X12_turn_13 (x0 : Nat) (x1 : Int) (x2 : Int) (h : Hp) (Q : Int → Hp → Prop) (hV : Lp_X12_turn_13 x0 x1 x2 h Q) : Go i_X12_turn 13 [(0, .inr (.inr x0)), (1, .inl x1), (2, .inl x2)] [] h (qI Q) := by
  refine hV (fun x2 h => Go i_X12_turn 13 [(0, .inr (.inr x0)), (1, .inl x1), (2, .inl x2)] [] h (qI Q)) (fun x2 h hV => ?_)
  unfold BLp_X12_turn_13 at hV
  have hP13 : ∀ (x2 : Int) (h : Hp), Go i_X12_turn 13 [(0, .inr (.inr x0)), (1, .inl x1), (2, .inl x2)] [] h (qI Q) → Go i_X12_turn 13 [(0, .inr (.inr x0)), (1, .inl x1), (2, .inl x2)] [] h (qI Q) := fun _ h z => z
  refine s_iload_n d_X12_turn_13 rfl (ma 2 rfl) ?_
  refine s_iload_n d_X12_turn_14 rfl (ma 1 rfl) ?_
  refine s_iconst d_X12_turn_15 (okn rfl) ?_
  obtain ⟨o, hV⟩ := hV
  refine s_idiv d_X12_turn_16 o.1 o.2 ?_
  refine s_icmp_ge (tgt := 68) d_X12_turn_17 (by decide) (fun c => ?_) (fun c => ?_)
  · have hV := hV.1 c
    refine s_aload_n d_X12_turn_68 rfl (ma 0 rfl) ?_
    refine s_iconst d_X12_turn_69 (okn rfl) ?_
    obtain ⟨o, hV⟩ := hV
    refine v_RX12_175 rfl (Nat.le_of_ble_eq_true rfl) d_X12_turn_70 o (Nat.le_of_ble_eq_true rfl) hV (fun r2 h1 hV => ?_)
    exact s_iret d_X12_turn_73 rfl rfl ⟨_, rfl, hV⟩
  · have hV := hV.2 c
    refine s_aload_n d_X12_turn_20 rfl (ma 0 rfl) ?_
    obtain ⟨o, hV⟩ := hV
    refine f_RX12_32g rfl d_X12_turn_21 o ?_
    refine s_iconst d_X12_turn_24 (okn rfl) ?_
    refine s_iload_n d_X12_turn_25 rfl (ma 2 rfl) ?_
    obtain ⟨o, hV⟩ := hV
    refine s_iadd d_X12_turn_26 o ?_
    obtain ⟨o, hV⟩ := hV
    refine s_iald d_X12_turn_27 o.1 o.2.1 o.2.2 ?_
    refine s_nmI (fun x3_3 ex3_3 => ?_)
    have hV := hV x3_3 ex3_3
    refine s_istore_n (lv' := [(3, .inl x3_3), (0, .inr (.inr x0)), (1, .inl x1), (2, .inl x2)]) d_X12_turn_28 rfl (Nat.le_of_ble_eq_true rfl) rfl ?_
    refine s_aload_n d_X12_turn_29 rfl (ma 1 rfl) ?_
    obtain ⟨o, hV⟩ := hV
    refine f_RX12_32g rfl d_X12_turn_30 o ?_
    refine s_iconst d_X12_turn_33 (okn rfl) ?_
    refine s_iload_n d_X12_turn_34 rfl (ma 3 rfl) ?_
    obtain ⟨o, hV⟩ := hV
    refine s_iadd d_X12_turn_35 o ?_
    refine s_aload_n d_X12_turn_36 rfl (ma 1 rfl) ?_
    obtain ⟨o, hV⟩ := hV
    refine f_RX12_32g rfl d_X12_turn_37 o ?_
    refine s_iconst d_X12_turn_40 (okn rfl) ?_
    refine s_iload_n d_X12_turn_41 rfl (ma 2 rfl) ?_
    obtain ⟨o, hV⟩ := hV
    refine s_iadd d_X12_turn_42 o ?_
    refine s_iconst d_X12_turn_43 (okn rfl) ?_
    obtain ⟨o, hV⟩ := hV
    refine s_isub d_X12_turn_44 o ?_
    refine s_iload_n d_X12_turn_45 rfl (ma 3 rfl) ?_
    obtain ⟨o, hV⟩ := hV
    refine s_isub d_X12_turn_46 o ?_
    obtain ⟨o, hV⟩ := hV
    refine s_iald d_X12_turn_47 o.1 o.2.1 o.2.2 ?_
    obtain ⟨o, hV⟩ := hV
    refine s_iast d_X12_turn_48 o.1 o.2.1 o.2.2 ?_
    refine s_nmH (fun h4 eh4 => ?_)
    have hV := hV h4 eh4
    refine s_aload_n d_X12_turn_49 rfl (ma 1 rfl) ?_
    obtain ⟨o, hV⟩ := hV
    refine f_RX12_32g rfl d_X12_turn_50 o ?_
    refine s_iconst d_X12_turn_53 (okn rfl) ?_
    refine s_iload_n d_X12_turn_54 rfl (ma 2 rfl) ?_
    obtain ⟨o, hV⟩ := hV
    refine s_iadd d_X12_turn_55 o ?_
    refine s_iconst d_X12_turn_56 (okn rfl) ?_
    obtain ⟨o, hV⟩ := hV
    refine s_isub d_X12_turn_57 o ?_
    refine s_iload_n d_X12_turn_58 rfl (ma 3 rfl) ?_
    obtain ⟨o, hV⟩ := hV
    refine s_isub d_X12_turn_59 o ?_
    refine s_iload_n d_X12_turn_60 rfl (ma 0 rfl) ?_
    obtain ⟨o, hV⟩ := hV
    refine s_iast d_X12_turn_61 o.1 o.2.1 o.2.2 ?_
    refine s_nmH (fun h5 eh5 => ?_)
    have hV := hV h5 eh5
    obtain ⟨o, hV⟩ := hV
    refine s_iinc (lv' := [(2, .inl (x2 + 1)), (3, .inl x3_3), (0, .inr (.inr x0)), (1, .inl x1)]) d_X12_turn_62 (ma 3 rfl) o (Nat.le_of_ble_eq_true rfl) rfl ?_
    refine s_goto (tgt := 13) d_X12_turn_65 (by decide) ?_
    refine s_pick (lv' := [(0, .inr (.inr x0)), (1, .inl x1), (2, .inl (x2 + 1))]) [2, 3, 0] rfl ?_
    exact hP13 _ _ hV
def V_X12_turn (x0 : Nat) (h : Hp) (Q : Int → Hp → Prop) : Prop :=
  hK h x0 = 11 ∧ C_X12_note x0  h (fun h1 => (hK h1 x0 = 11 ∧ ((hK h1 (hR h1 x0 14) = 12 ∧ (0 : Int) ≤ 0 ∧ 0 < hL h1 (hR h1 x0 14)) ∧ (∀ x1_2 : Int, x1_2 = hI h1 (hR h1 x0 14) 0 → (Lp_X12_turn_13 x0 x1_2 0 h1 Q)))))
theorem G_X12_turn {x0 : Nat} (h : Hp) (Q : Int → Hp → Prop) (hV : V_X12_turn x0 h Q) : C_X12_turn x0 h Q := by
  unfold V_X12_turn at hV
  show Go i_X12_turn 0 [(0, .inr (.inr x0))] [] h (qI Q)
  refine s_aload_n d_X12_turn_0 rfl (ma 0 rfl) ?_
  obtain ⟨o, hV⟩ := hV
  refine v_RX12_212 rfl (Nat.le_of_ble_eq_true rfl) d_X12_turn_1 o (Nat.le_of_ble_eq_true rfl) hV (fun h1 hV => ?_)
  refine s_aload_n d_X12_turn_4 rfl (ma 0 rfl) ?_
  obtain ⟨o, hV⟩ := hV
  refine f_RX12_32g rfl d_X12_turn_5 o ?_
  refine s_iconst d_X12_turn_8 (okn rfl) ?_
  obtain ⟨o, hV⟩ := hV
  refine s_iald d_X12_turn_9 o.1 o.2.1 o.2.2 ?_
  refine s_nmI (fun x1_2 ex1_2 => ?_)
  have hV := hV x1_2 ex1_2
  refine s_istore_n (lv' := [(1, .inl x1_2), (0, .inr (.inr x0))]) d_X12_turn_10 rfl (Nat.le_of_ble_eq_true rfl) rfl ?_
  refine s_iconst d_X12_turn_11 (okn rfl) ?_
  refine s_istore_n (lv' := [(2, .inl 0), (1, .inl x1_2), (0, .inr (.inr x0))]) d_X12_turn_12 rfl (Nat.le_of_ble_eq_true rfl) rfl ?_
  refine s_pick (lv' := [(0, .inr (.inr x0)), (1, .inl x1_2), (2, .inl 0)]) [2, 1, 0] rfl ?_
  exact GLp_X12_turn_13 _ _ _ _ _ hV

theorem d_X12_draw_0 : decode i_X12_draw.2.1 0 = .ok (.aload_n 0, 1) := by decide +kernel
theorem d_X12_draw_1 : decode i_X12_draw.2.1 1 = .ok (.aload_n 0, 1) := by decide +kernel
theorem d_X12_draw_2 : decode i_X12_draw.2.1 2 = .ok (.getfield 222, 3) := by decide +kernel
theorem d_X12_draw_5 : decode i_X12_draw.2.1 5 = .ok (.i2l, 1) := by decide +kernel
theorem d_X12_draw_6 : decode i_X12_draw.2.1 6 = .ok (.ldc2_w 225, 3) := by decide +kernel
theorem d_X12_draw_9 : decode i_X12_draw.2.1 9 = .ok (.lmul, 1) := by decide +kernel
theorem d_X12_draw_10 : decode i_X12_draw.2.1 10 = .ok (.ldc2_w 227, 3) := by decide +kernel
theorem d_X12_draw_13 : decode i_X12_draw.2.1 13 = .ok (.ladd, 1) := by decide +kernel
theorem d_X12_draw_14 : decode i_X12_draw.2.1 14 = .ok (.ldc2_w 229, 3) := by decide +kernel
theorem d_X12_draw_17 : decode i_X12_draw.2.1 17 = .ok (.lrem, 1) := by decide +kernel
theorem d_X12_draw_18 : decode i_X12_draw.2.1 18 = .ok (.l2i, 1) := by decide +kernel
theorem d_X12_draw_19 : decode i_X12_draw.2.1 19 = .ok (.putfield 222, 3) := by decide +kernel
theorem d_X12_draw_22 : decode i_X12_draw.2.1 22 = .ok (.aload_n 0, 1) := by decide +kernel
theorem d_X12_draw_23 : decode i_X12_draw.2.1 23 = .ok (.getfield 222, 3) := by decide +kernel
theorem d_X12_draw_26 : decode i_X12_draw.2.1 26 = .ok (.ldc 231, 2) := by decide +kernel
theorem d_X12_draw_28 : decode i_X12_draw.2.1 28 = .ok (.idiv, 1) := by decide +kernel
theorem d_X12_draw_29 : decode i_X12_draw.2.1 29 = .ok (.iload_n 1, 1) := by decide +kernel
theorem d_X12_draw_30 : decode i_X12_draw.2.1 30 = .ok (.irem, 1) := by decide +kernel
theorem d_X12_draw_31 : decode i_X12_draw.2.1 31 = .ok (.ireturn, 1) := by decide +kernel
def V_X12_draw (x0 : Nat) (x1 : Int) (h : Hp) (Q : Int → Hp → Prop) : Prop :=
  hK h x0 = 11 ∧ (((-9223372036854775808 : Int) ≤ (hI h x0 20) * 1103515245 ∧ (hI h x0 20) * 1103515245 ≤ (9223372036854775807 : Int)) ∧ (((-9223372036854775808 : Int) ≤ ((hI h x0 20) * 1103515245) + 12345 ∧ ((hI h x0 20) * 1103515245) + 12345 ≤ (9223372036854775807 : Int)) ∧ (((0 : Int) ≤ ((hI h x0 20) * 1103515245) + 12345 ∧ (0 : Int) < 2147483648) ∧ (((-2147483648 : Int) ≤ (((hI h x0 20) * 1103515245) + 12345) % 2147483648 ∧ (((hI h x0 20) * 1103515245) + 12345) % 2147483648 ≤ (2147483647 : Int)) ∧ (hK h x0 = 11 ∧ ∀ h1 : Hp, h1 = wI h x0 20 ((((hI h x0 20) * 1103515245) + 12345) % 2147483648) → (hK h1 x0 = 11 ∧ (((0 : Int) ≤ hI h1 x0 20 ∧ (0 : Int) < 65536) ∧ (((0 : Int) ≤ (hI h1 x0 20) / 65536 ∧ (0 : Int) < x1) ∧ (Q (((hI h1 x0 20) / 65536) % x1) h1)))))))))
theorem G_X12_draw {x0 : Nat} {x1 : Int} (h : Hp) (Q : Int → Hp → Prop) (hV : V_X12_draw x0 x1 h Q) : C_X12_draw x0 x1 h Q := by
  unfold V_X12_draw at hV
  show Go i_X12_draw 0 [(0, .inr (.inr x0)), (1, .inl x1)] [] h (qI Q)
  refine s_aload_n d_X12_draw_0 rfl (ma 0 rfl) ?_
  refine s_aload_n d_X12_draw_1 rfl (ma 0 rfl) ?_
  obtain ⟨o, hV⟩ := hV
  refine f_RX12_222g rfl d_X12_draw_2 o ?_
  refine s_i2l d_X12_draw_5 ?_
  refine s_ldc2 (n := 1103515245) d_X12_draw_6 k_RX12_225 (by decide) (okln rfl) ?_
  obtain ⟨o, hV⟩ := hV
  refine s_lmul d_X12_draw_9 o ?_
  refine s_ldc2 (n := 12345) d_X12_draw_10 k_RX12_227 (by decide) (okln rfl) ?_
  obtain ⟨o, hV⟩ := hV
  refine s_ladd d_X12_draw_13 o ?_
  refine s_ldc2 (n := 2147483648) d_X12_draw_14 k_RX12_229 (by decide) (okln rfl) ?_
  obtain ⟨o, hV⟩ := hV
  refine s_lrem d_X12_draw_17 o.1 o.2 ?_
  obtain ⟨o, hV⟩ := hV
  refine s_l2i d_X12_draw_18 o ?_
  obtain ⟨o, hV⟩ := hV
  refine f_RX12_222p rfl d_X12_draw_19 o (fun h1 eh1 => ?_)
  have hV := hV h1 eh1
  refine s_aload_n d_X12_draw_22 rfl (ma 0 rfl) ?_
  obtain ⟨o, hV⟩ := hV
  refine f_RX12_222g rfl d_X12_draw_23 o ?_
  refine s_ldc (n := 65536) d_X12_draw_26 k_RX12_231 (by decide) (okn rfl) ?_
  obtain ⟨o, hV⟩ := hV
  refine s_idiv d_X12_draw_28 o.1 o.2 ?_
  refine s_iload_n d_X12_draw_29 rfl (ma 1 rfl) ?_
  obtain ⟨o, hV⟩ := hV
  refine s_irem d_X12_draw_30 o.1 o.2 ?_
  exact s_iret d_X12_draw_31 rfl rfl ⟨_, rfl, hV⟩

theorem d_X12_drifts_0 : decode i_X12_drifts.2.1 0 = .ok (.aload_n 0, 1) := by decide +kernel
theorem d_X12_drifts_1 : decode i_X12_drifts.2.1 1 = .ok (.invokevirtual 212, 3) := by decide +kernel
theorem d_X12_drifts_4 : decode i_X12_drifts.2.1 4 = .ok (.aload_n 0, 1) := by decide +kernel
theorem d_X12_drifts_5 : decode i_X12_drifts.2.1 5 = .ok (.bipush 8, 2) := by decide +kernel
theorem d_X12_drifts_7 : decode i_X12_drifts.2.1 7 = .ok (.invokevirtual 232, 3) := by decide +kernel
theorem d_X12_drifts_10 : decode i_X12_drifts.2.1 10 = .ok (.istore_n 1, 1) := by decide +kernel
theorem d_X12_drifts_11 : decode i_X12_drifts.2.1 11 = .ok (.iload_n 1, 1) := by decide +kernel
theorem d_X12_drifts_12 : decode i_X12_drifts.2.1 12 = .ok (.bipush 6, 2) := by decide +kernel
theorem d_X12_drifts_14 : decode i_X12_drifts.2.1 14 = .ok (.if_icmp .ge 29, 3) := by decide +kernel
theorem d_X12_drifts_17 : decode i_X12_drifts.2.1 17 = .ok (.aload_n 0, 1) := by decide +kernel
theorem d_X12_drifts_18 : decode i_X12_drifts.2.1 18 = .ok (.invokevirtual 205, 3) := by decide +kernel
theorem d_X12_drifts_21 : decode i_X12_drifts.2.1 21 = .ok (.aload_n 0, 1) := by decide +kernel
theorem d_X12_drifts_22 : decode i_X12_drifts.2.1 22 = .ok (.iload_n 1, 1) := by decide +kernel
theorem d_X12_drifts_23 : decode i_X12_drifts.2.1 23 = .ok (.invokevirtual 208, 3) := by decide +kernel
theorem d_X12_drifts_26 : decode i_X12_drifts.2.1 26 = .ok (.aload_n 0, 1) := by decide +kernel
theorem d_X12_drifts_27 : decode i_X12_drifts.2.1 27 = .ok (.getfield 186, 3) := by decide +kernel
theorem d_X12_drifts_30 : decode i_X12_drifts.2.1 30 = .ok (.bipush 60, 2) := by decide +kernel
theorem d_X12_drifts_32 : decode i_X12_drifts.2.1 32 = .ok (.if_icmp .gt 81, 3) := by decide +kernel
theorem d_X12_drifts_35 : decode i_X12_drifts.2.1 35 = .ok (.aload_n 0, 1) := by decide +kernel
theorem d_X12_drifts_36 : decode i_X12_drifts.2.1 36 = .ok (.iload_n 1, 1) := by decide +kernel
theorem d_X12_drifts_37 : decode i_X12_drifts.2.1 37 = .ok (.invokevirtual 215, 3) := by decide +kernel
theorem d_X12_drifts_40 : decode i_X12_drifts.2.1 40 = .ok (.goto 73, 3) := by decide +kernel
theorem d_X12_drifts_43 : decode i_X12_drifts.2.1 43 = .ok (.iload_n 1, 1) := by decide +kernel
theorem d_X12_drifts_44 : decode i_X12_drifts.2.1 44 = .ok (.bipush 6, 2) := by decide +kernel
theorem d_X12_drifts_46 : decode i_X12_drifts.2.1 46 = .ok (.if_icmp .ne 46, 3) := by decide +kernel
theorem d_X12_drifts_49 : decode i_X12_drifts.2.1 49 = .ok (.aload_n 0, 1) := by decide +kernel
theorem d_X12_drifts_50 : decode i_X12_drifts.2.1 50 = .ok (.getfield 32, 3) := by decide +kernel
theorem d_X12_drifts_53 : decode i_X12_drifts.2.1 53 = .ok (.iconst 0, 1) := by decide +kernel
theorem d_X12_drifts_54 : decode i_X12_drifts.2.1 54 = .ok (.iaload, 1) := by decide +kernel
theorem d_X12_drifts_55 : decode i_X12_drifts.2.1 55 = .ok (.bipush 60, 2) := by decide +kernel
theorem d_X12_drifts_57 : decode i_X12_drifts.2.1 57 = .ok (.if_icmp .ge 56, 3) := by decide +kernel
theorem d_X12_drifts_60 : decode i_X12_drifts.2.1 60 = .ok (.aload_n 0, 1) := by decide +kernel
theorem d_X12_drifts_61 : decode i_X12_drifts.2.1 61 = .ok (.getfield 32, 3) := by decide +kernel
theorem d_X12_drifts_64 : decode i_X12_drifts.2.1 64 = .ok (.iconst 3, 1) := by decide +kernel
theorem d_X12_drifts_65 : decode i_X12_drifts.2.1 65 = .ok (.aload_n 0, 1) := by decide +kernel
theorem d_X12_drifts_66 : decode i_X12_drifts.2.1 66 = .ok (.getfield 32, 3) := by decide +kernel
theorem d_X12_drifts_69 : decode i_X12_drifts.2.1 69 = .ok (.iconst 0, 1) := by decide +kernel
theorem d_X12_drifts_70 : decode i_X12_drifts.2.1 70 = .ok (.iaload, 1) := by decide +kernel
theorem d_X12_drifts_71 : decode i_X12_drifts.2.1 71 = .ok (.iadd, 1) := by decide +kernel
theorem d_X12_drifts_72 : decode i_X12_drifts.2.1 72 = .ok (.aload_n 0, 1) := by decide +kernel
theorem d_X12_drifts_73 : decode i_X12_drifts.2.1 73 = .ok (.bipush 10, 2) := by decide +kernel
theorem d_X12_drifts_75 : decode i_X12_drifts.2.1 75 = .ok (.invokevirtual 232, 3) := by decide +kernel
theorem d_X12_drifts_78 : decode i_X12_drifts.2.1 78 = .ok (.iastore, 1) := by decide +kernel
theorem d_X12_drifts_79 : decode i_X12_drifts.2.1 79 = .ok (.aload_n 0, 1) := by decide +kernel
theorem d_X12_drifts_80 : decode i_X12_drifts.2.1 80 = .ok (.getfield 32, 3) := by decide +kernel
theorem d_X12_drifts_83 : decode i_X12_drifts.2.1 83 = .ok (.iconst 0, 1) := by decide +kernel
theorem d_X12_drifts_84 : decode i_X12_drifts.2.1 84 = .ok (.dup2, 1) := by decide +kernel
theorem d_X12_drifts_85 : decode i_X12_drifts.2.1 85 = .ok (.iaload, 1) := by decide +kernel
theorem d_X12_drifts_86 : decode i_X12_drifts.2.1 86 = .ok (.iconst 1, 1) := by decide +kernel
theorem d_X12_drifts_87 : decode i_X12_drifts.2.1 87 = .ok (.iadd, 1) := by decide +kernel
theorem d_X12_drifts_88 : decode i_X12_drifts.2.1 88 = .ok (.iastore, 1) := by decide +kernel
theorem d_X12_drifts_89 : decode i_X12_drifts.2.1 89 = .ok (.goto 24, 3) := by decide +kernel
theorem d_X12_drifts_92 : decode i_X12_drifts.2.1 92 = .ok (.aload_n 0, 1) := by decide +kernel
theorem d_X12_drifts_93 : decode i_X12_drifts.2.1 93 = .ok (.getfield 32, 3) := by decide +kernel
theorem d_X12_drifts_96 : decode i_X12_drifts.2.1 96 = .ok (.iconst 0, 1) := by decide +kernel
theorem d_X12_drifts_97 : decode i_X12_drifts.2.1 97 = .ok (.dup2, 1) := by decide +kernel
theorem d_X12_drifts_98 : decode i_X12_drifts.2.1 98 = .ok (.iaload, 1) := by decide +kernel
theorem d_X12_drifts_99 : decode i_X12_drifts.2.1 99 = .ok (.aload_n 0, 1) := by decide +kernel
theorem d_X12_drifts_100 : decode i_X12_drifts.2.1 100 = .ok (.aload_n 0, 1) := by decide +kernel
theorem d_X12_drifts_101 : decode i_X12_drifts.2.1 101 = .ok (.getfield 32, 3) := by decide +kernel
theorem d_X12_drifts_104 : decode i_X12_drifts.2.1 104 = .ok (.iconst 0, 1) := by decide +kernel
theorem d_X12_drifts_105 : decode i_X12_drifts.2.1 105 = .ok (.iaload, 1) := by decide +kernel
theorem d_X12_drifts_106 : decode i_X12_drifts.2.1 106 = .ok (.iconst 1, 1) := by decide +kernel
theorem d_X12_drifts_107 : decode i_X12_drifts.2.1 107 = .ok (.iadd, 1) := by decide +kernel
theorem d_X12_drifts_108 : decode i_X12_drifts.2.1 108 = .ok (.invokevirtual 232, 3) := by decide +kernel
theorem d_X12_drifts_111 : decode i_X12_drifts.2.1 111 = .ok (.isub, 1) := by decide +kernel
theorem d_X12_drifts_112 : decode i_X12_drifts.2.1 112 = .ok (.iastore, 1) := by decide +kernel
theorem d_X12_drifts_113 : decode i_X12_drifts.2.1 113 = .ok (.return_, 1) := by decide +kernel
def V_X12_drifts (x0 : Nat) (h : Hp) (Q : Hp → Prop) : Prop :=
  hK h x0 = 11 ∧ C_X12_note x0  h (fun h1 => (hK h1 x0 = 11 ∧ C_X12_draw x0 8 h1 (fun r3 h2 => ((6 ≤ r3 → ((r3 ≠ 6 → (hK h2 x0 = 11 ∧ ((hK h2 (hR h2 x0 14) = 12 ∧ (0 : Int) ≤ 0 ∧ 0 < hL h2 (hR h2 x0 14)) ∧ (hK h2 x0 = 11 ∧ ((hK h2 (hR h2 x0 14) = 12 ∧ (0 : Int) ≤ 0 ∧ 0 < hL h2 (hR h2 x0 14)) ∧ (((-2147483648 : Int) ≤ (hI h2 (hR h2 x0 14) 0) + 1 ∧ (hI h2 (hR h2 x0 14) 0) + 1 ≤ (2147483647 : Int)) ∧ (hK h2 x0 = 11 ∧ C_X12_draw x0 ((hI h2 (hR h2 x0 14) 0) + 1) h2 (fun r5 h4 => (((-2147483648 : Int) ≤ (hI h2 (hR h2 x0 14) 0) - r5 ∧ (hI h2 (hR h2 x0 14) 0) - r5 ≤ (2147483647 : Int)) ∧ ((hK h4 (hR h2 x0 14) = 12 ∧ (0 : Int) ≤ 0 ∧ 0 < hL h4 (hR h2 x0 14)) ∧ ∀ h6 : Hp, h6 = wI h4 (hR h2 x0 14) 0 ((hI h2 (hR h2 x0 14) 0) - r5) → (Q h6))))))))))) ∧ (r3 = 6 → (hK h2 x0 = 11 ∧ ((hK h2 (hR h2 x0 14) = 12 ∧ (0 : Int) ≤ 0 ∧ 0 < hL h2 (hR h2 x0 14)) ∧ ((60 ≤ hI h2 (hR h2 x0 14) 0 → (Q h2)) ∧ (¬ 60 ≤ hI h2 (hR h2 x0 14) 0 → (hK h2 x0 = 11 ∧ (hK h2 x0 = 11 ∧ ((hK h2 (hR h2 x0 14) = 12 ∧ (0 : Int) ≤ 0 ∧ 0 < hL h2 (hR h2 x0 14)) ∧ (((-2147483648 : Int) ≤ 3 + (hI h2 (hR h2 x0 14) 0) ∧ 3 + (hI h2 (hR h2 x0 14) 0) ≤ (2147483647 : Int)) ∧ (hK h2 x0 = 11 ∧ C_X12_draw x0 10 h2 (fun r8 h7 => ((hK h7 (hR h2 x0 14) = 12 ∧ (0 : Int) ≤ 3 + (hI h2 (hR h2 x0 14) 0) ∧ 3 + (hI h2 (hR h2 x0 14) 0) < hL h7 (hR h2 x0 14)) ∧ ∀ h9 : Hp, h9 = wI h7 (hR h2 x0 14) (3 + (hI h2 (hR h2 x0 14) 0)) r8 → (hK h9 x0 = 11 ∧ ((hK h9 (hR h9 x0 14) = 12 ∧ (0 : Int) ≤ 0 ∧ 0 < hL h9 (hR h9 x0 14)) ∧ (((-2147483648 : Int) ≤ (hI h9 (hR h9 x0 14) 0) + 1 ∧ (hI h9 (hR h9 x0 14) 0) + 1 ≤ (2147483647 : Int)) ∧ ((hK h9 (hR h9 x0 14) = 12 ∧ (0 : Int) ≤ 0 ∧ 0 < hL h9 (hR h9 x0 14)) ∧ ∀ h10 : Hp, h10 = wI h9 (hR h9 x0 14) 0 ((hI h9 (hR h9 x0 14) 0) + 1) → (Q h10))))))))))))))))))) ∧ (¬ 6 ≤ r3 → (hK h2 x0 = 11 ∧ C_X12_begin x0  h2 (fun h11 => (hK h11 x0 = 11 ∧ C_X12_reads x0 r3 h11 (fun h12 => (hK h12 x0 = 11 ∧ ((60 < hI h12 x0 29 → (Q h12)) ∧ (¬ 60 < hI h12 x0 29 → (hK h12 x0 = 11 ∧ C_X12_logs x0 r3 h12 (fun h13 => (Q h13)))))))))))))))
theorem G_X12_drifts {x0 : Nat} (h : Hp) (Q : Hp → Prop) (hV : V_X12_drifts x0 h Q) : C_X12_drifts x0 h Q := by
  unfold V_X12_drifts at hV
  show Go i_X12_drifts 0 [(0, .inr (.inr x0))] [] h (qV Q)
  refine s_aload_n d_X12_drifts_0 rfl (ma 0 rfl) ?_
  obtain ⟨o, hV⟩ := hV
  refine v_RX12_212 rfl (Nat.le_of_ble_eq_true rfl) d_X12_drifts_1 o (Nat.le_of_ble_eq_true rfl) hV (fun h1 hV => ?_)
  refine s_aload_n d_X12_drifts_4 rfl (ma 0 rfl) ?_
  refine s_bipush d_X12_drifts_5 (by decide) (okn rfl) ?_
  obtain ⟨o, hV⟩ := hV
  refine v_RX12_232 rfl (Nat.le_of_ble_eq_true rfl) d_X12_drifts_7 o (Nat.le_of_ble_eq_true rfl) hV (fun r3 h2 hV => ?_)
  refine s_istore_n (lv' := [(1, .inl r3), (0, .inr (.inr x0))]) d_X12_drifts_10 rfl (Nat.le_of_ble_eq_true rfl) rfl ?_
  refine s_iload_n d_X12_drifts_11 rfl (ma 0 rfl) ?_
  refine s_bipush d_X12_drifts_12 (by decide) (okn rfl) ?_
  refine s_icmp_ge (tgt := 43) d_X12_drifts_14 (by decide) (fun c => ?_) (fun c => ?_)
  · have hV := hV.1 c
    refine s_iload_n d_X12_drifts_43 rfl (ma 0 rfl) ?_
    refine s_bipush d_X12_drifts_44 (by decide) (okn rfl) ?_
    refine s_icmp_ne (tgt := 92) d_X12_drifts_46 (by decide) (fun c => ?_) (fun c => ?_)
    · have hV := hV.1 c
      refine s_aload_n d_X12_drifts_92 rfl (ma 1 rfl) ?_
      obtain ⟨o, hV⟩ := hV
      refine f_RX12_32g rfl d_X12_drifts_93 o ?_
      refine s_iconst d_X12_drifts_96 (okn rfl) ?_
      refine s_dup2 d_X12_drifts_97 rfl rfl ?_
      obtain ⟨o, hV⟩ := hV
      refine s_iald d_X12_drifts_98 o.1 o.2.1 o.2.2 ?_
      refine s_aload_n d_X12_drifts_99 rfl (ma 1 rfl) ?_
      refine s_aload_n d_X12_drifts_100 rfl (ma 1 rfl) ?_
      obtain ⟨o, hV⟩ := hV
      refine f_RX12_32g rfl d_X12_drifts_101 o ?_
      refine s_iconst d_X12_drifts_104 (okn rfl) ?_
      obtain ⟨o, hV⟩ := hV
      refine s_iald d_X12_drifts_105 o.1 o.2.1 o.2.2 ?_
      refine s_iconst d_X12_drifts_106 (okn rfl) ?_
      obtain ⟨o, hV⟩ := hV
      refine s_iadd d_X12_drifts_107 o ?_
      obtain ⟨o, hV⟩ := hV
      refine v_RX12_232 rfl (Nat.le_of_ble_eq_true rfl) d_X12_drifts_108 o (Nat.le_of_ble_eq_true rfl) hV (fun r5 h4 hV => ?_)
      obtain ⟨o, hV⟩ := hV
      refine s_isub d_X12_drifts_111 o ?_
      obtain ⟨o, hV⟩ := hV
      refine s_iast d_X12_drifts_112 o.1 o.2.1 o.2.2 ?_
      refine s_nmH (fun h6 eh6 => ?_)
      have hV := hV h6 eh6
      exact s_vret d_X12_drifts_113 rfl ⟨rfl, hV⟩
    · have hV := hV.2 c
      refine s_aload_n d_X12_drifts_49 rfl (ma 1 rfl) ?_
      obtain ⟨o, hV⟩ := hV
      refine f_RX12_32g rfl d_X12_drifts_50 o ?_
      refine s_iconst d_X12_drifts_53 (okn rfl) ?_
      obtain ⟨o, hV⟩ := hV
      refine s_iald d_X12_drifts_54 o.1 o.2.1 o.2.2 ?_
      refine s_bipush d_X12_drifts_55 (by decide) (okn rfl) ?_
      refine s_icmp_ge (tgt := 113) d_X12_drifts_57 (by decide) (fun c => ?_) (fun c => ?_)
      · have hV := hV.1 c
        exact s_vret d_X12_drifts_113 rfl ⟨rfl, hV⟩
      · have hV := hV.2 c
        refine s_aload_n d_X12_drifts_60 rfl (ma 1 rfl) ?_
        obtain ⟨o, hV⟩ := hV
        refine f_RX12_32g rfl d_X12_drifts_61 o ?_
        refine s_iconst d_X12_drifts_64 (okn rfl) ?_
        refine s_aload_n d_X12_drifts_65 rfl (ma 1 rfl) ?_
        obtain ⟨o, hV⟩ := hV
        refine f_RX12_32g rfl d_X12_drifts_66 o ?_
        refine s_iconst d_X12_drifts_69 (okn rfl) ?_
        obtain ⟨o, hV⟩ := hV
        refine s_iald d_X12_drifts_70 o.1 o.2.1 o.2.2 ?_
        obtain ⟨o, hV⟩ := hV
        refine s_iadd d_X12_drifts_71 o ?_
        refine s_aload_n d_X12_drifts_72 rfl (ma 1 rfl) ?_
        refine s_bipush d_X12_drifts_73 (by decide) (okn rfl) ?_
        obtain ⟨o, hV⟩ := hV
        refine v_RX12_232 rfl (Nat.le_of_ble_eq_true rfl) d_X12_drifts_75 o (Nat.le_of_ble_eq_true rfl) hV (fun r8 h7 hV => ?_)
        obtain ⟨o, hV⟩ := hV
        refine s_iast d_X12_drifts_78 o.1 o.2.1 o.2.2 ?_
        refine s_nmH (fun h9 eh9 => ?_)
        have hV := hV h9 eh9
        refine s_aload_n d_X12_drifts_79 rfl (ma 1 rfl) ?_
        obtain ⟨o, hV⟩ := hV
        refine f_RX12_32g rfl d_X12_drifts_80 o ?_
        refine s_iconst d_X12_drifts_83 (okn rfl) ?_
        refine s_dup2 d_X12_drifts_84 rfl rfl ?_
        obtain ⟨o, hV⟩ := hV
        refine s_iald d_X12_drifts_85 o.1 o.2.1 o.2.2 ?_
        refine s_iconst d_X12_drifts_86 (okn rfl) ?_
        obtain ⟨o, hV⟩ := hV
        refine s_iadd d_X12_drifts_87 o ?_
        obtain ⟨o, hV⟩ := hV
        refine s_iast d_X12_drifts_88 o.1 o.2.1 o.2.2 ?_
        refine s_nmH (fun h10 eh10 => ?_)
        have hV := hV h10 eh10
        refine s_goto (tgt := 113) d_X12_drifts_89 (by decide) ?_
        exact s_vret d_X12_drifts_113 rfl ⟨rfl, hV⟩
  · have hV := hV.2 c
    refine s_aload_n d_X12_drifts_17 rfl (ma 1 rfl) ?_
    obtain ⟨o, hV⟩ := hV
    refine v_RX12_205 rfl (Nat.le_of_ble_eq_true rfl) d_X12_drifts_18 o (Nat.le_of_ble_eq_true rfl) hV (fun h11 hV => ?_)
    refine s_aload_n d_X12_drifts_21 rfl (ma 1 rfl) ?_
    refine s_iload_n d_X12_drifts_22 rfl (ma 0 rfl) ?_
    obtain ⟨o, hV⟩ := hV
    refine v_RX12_208 rfl (Nat.le_of_ble_eq_true rfl) d_X12_drifts_23 o (Nat.le_of_ble_eq_true rfl) hV (fun h12 hV => ?_)
    refine s_aload_n d_X12_drifts_26 rfl (ma 1 rfl) ?_
    obtain ⟨o, hV⟩ := hV
    refine f_RX12_186g rfl d_X12_drifts_27 o ?_
    refine s_bipush d_X12_drifts_30 (by decide) (okn rfl) ?_
    refine s_icmp_gt (tgt := 113) d_X12_drifts_32 (by decide) (fun c => ?_) (fun c => ?_)
    · have hV := hV.1 c
      exact s_vret d_X12_drifts_113 rfl ⟨rfl, hV⟩
    · have hV := hV.2 c
      refine s_aload_n d_X12_drifts_35 rfl (ma 1 rfl) ?_
      refine s_iload_n d_X12_drifts_36 rfl (ma 0 rfl) ?_
      obtain ⟨o, hV⟩ := hV
      refine v_RX12_215 rfl (Nat.le_of_ble_eq_true rfl) d_X12_drifts_37 o (Nat.le_of_ble_eq_true rfl) hV (fun h13 hV => ?_)
      refine s_goto (tgt := 113) d_X12_drifts_40 (by decide) ?_
      exact s_vret d_X12_drifts_113 rfl ⟨rfl, hV⟩

theorem d_X12_drift_0 : decode i_X12_drift.2.1 0 = .ok (.iload_n 1, 1) := by decide +kernel
theorem d_X12_drift_1 : decode i_X12_drift.2.1 1 = .ok (.iconst 1, 1) := by decide +kernel
theorem d_X12_drift_2 : decode i_X12_drift.2.1 2 = .ok (.bipush 20, 2) := by decide +kernel
theorem d_X12_drift_4 : decode i_X12_drift.2.1 4 = .ok (.invokestatic 90, 3) := by decide +kernel
theorem d_X12_drift_7 : decode i_X12_drift.2.1 7 = .ok (.ifCond .ne 6, 3) := by decide +kernel
theorem d_X12_drift_10 : decode i_X12_drift.2.1 10 = .ok (.ldc 94, 2) := by decide +kernel
theorem d_X12_drift_12 : decode i_X12_drift.2.1 12 = .ok (.ireturn, 1) := by decide +kernel
theorem d_X12_drift_13 : decode i_X12_drift.2.1 13 = .ok (.aload_n 0, 1) := by decide +kernel
theorem d_X12_drift_14 : decode i_X12_drift.2.1 14 = .ok (.getfield 32, 3) := by decide +kernel
theorem d_X12_drift_17 : decode i_X12_drift.2.1 17 = .ok (.iconst 1, 1) := by decide +kernel
theorem d_X12_drift_18 : decode i_X12_drift.2.1 18 = .ok (.iaload, 1) := by decide +kernel
theorem d_X12_drift_19 : decode i_X12_drift.2.1 19 = .ok (.ldc 211, 2) := by decide +kernel
theorem d_X12_drift_21 : decode i_X12_drift.2.1 21 = .ok (.if_icmp .lt 6, 3) := by decide +kernel
theorem d_X12_drift_24 : decode i_X12_drift.2.1 24 = .ok (.ldc 98, 2) := by decide +kernel
theorem d_X12_drift_26 : decode i_X12_drift.2.1 26 = .ok (.ireturn, 1) := by decide +kernel
theorem d_X12_drift_27 : decode i_X12_drift.2.1 27 = .ok (.iconst 0, 1) := by decide +kernel
theorem d_X12_drift_28 : decode i_X12_drift.2.1 28 = .ok (.istore_n 2, 1) := by decide +kernel
theorem d_X12_drift_29 : decode i_X12_drift.2.1 29 = .ok (.iload_n 2, 1) := by decide +kernel
theorem d_X12_drift_30 : decode i_X12_drift.2.1 30 = .ok (.iload_n 1, 1) := by decide +kernel
theorem d_X12_drift_31 : decode i_X12_drift.2.1 31 = .ok (.if_icmp .ge 13, 3) := by decide +kernel
theorem d_X12_drift_34 : decode i_X12_drift.2.1 34 = .ok (.aload_n 0, 1) := by decide +kernel
theorem d_X12_drift_35 : decode i_X12_drift.2.1 35 = .ok (.invokevirtual 235, 3) := by decide +kernel
theorem d_X12_drift_38 : decode i_X12_drift.2.1 38 = .ok (.iinc 2 1, 3) := by decide +kernel
theorem d_X12_drift_41 : decode i_X12_drift.2.1 41 = .ok (.goto (-12), 3) := by decide +kernel
theorem d_X12_drift_44 : decode i_X12_drift.2.1 44 = .ok (.aload_n 0, 1) := by decide +kernel
theorem d_X12_drift_45 : decode i_X12_drift.2.1 45 = .ok (.getfield 32, 3) := by decide +kernel
theorem d_X12_drift_48 : decode i_X12_drift.2.1 48 = .ok (.iconst 0, 1) := by decide +kernel
theorem d_X12_drift_49 : decode i_X12_drift.2.1 49 = .ok (.iaload, 1) := by decide +kernel
theorem d_X12_drift_50 : decode i_X12_drift.2.1 50 = .ok (.ireturn, 1) := by decide +kernel
def BLp_X12_drift_29 (x0 : Nat) (x1 : Int) (P29 : Int → Hp → Prop) (x2 : Int) (h : Hp) (Q : Int → Hp → Prop) : Prop :=
  (x1 ≤ x2 → (hK h x0 = 11 ∧ ((hK h (hR h x0 14) = 12 ∧ (0 : Int) ≤ 0 ∧ 0 < hL h (hR h x0 14)) ∧ (Q (hI h (hR h x0 14) 0) h)))) ∧ (¬ x1 ≤ x2 → (hK h x0 = 11 ∧ C_X12_drifts x0  h (fun h1 => (((-2147483648 : Int) ≤ x2 + 1 ∧ x2 + 1 ≤ (2147483647 : Int)) ∧ (P29 (x2 + 1) h1)))))
def Lp_X12_drift_29 (x0 : Nat) (x1 : Int) (x2 : Int) (h : Hp) (Q : Int → Hp → Prop) : Prop := ∀ P29 : Int → Hp → Prop, (∀ (x2 : Int) (h : Hp), BLp_X12_drift_29 x0 x1 P29 x2 h Q → P29 x2 h) → P29 x2 h
theorem Lp_X12_drift_29_ind {x0 : Nat} {x1 : Int} {Q : Int → Hp → Prop} (I : Int → Hp → Prop) (μ : Int → Hp → Nat) (hs : ∀ (P29 : Int → Hp → Prop) (x2 : Int) (h : Hp), I x2 h → (∀ (x2' : Int) (h' : Hp), I x2' h' → μ x2' h' < μ x2 h → P29 x2' h') → BLp_X12_drift_29 x0 x1 P29 x2 h Q) : ∀ (x2 : Int) (h : Hp), I x2 h → Lp_X12_drift_29 x0 x1 x2 h Q := by
  intro x2 h hI P29 hP
  have key : ∀ (n : Nat) (x2 : Int) (h : Hp), I x2 h → μ x2 h < n → P29 x2 h := by
    intro n
    induction n with
    | zero => intro x2 h _ hl; exact absurd hl (Nat.not_lt_zero _)
    | succ n ih => intro x2 h hi hl; exact hP x2 h (hs P29 x2 h hi (fun x2 h' hi' hl' => ih x2 h' hi' (by omega)))
  exact key _ x2 h hI (Nat.lt_succ_self _)
theorem GLp_X12_drift_29 (x0 : Nat) (x1 : Int) (x2 : Int) (h : Hp) (Q : Int → Hp → Prop) (hV : Lp_X12_drift_29 x0 x1 x2 h Q) : Go i_X12_drift 29 [(0, .inr (.inr x0)), (1, .inl x1), (2, .inl x2)] [] h (qI Q) := by
  refine hV (fun x2 h => Go i_X12_drift 29 [(0, .inr (.inr x0)), (1, .inl x1), (2, .inl x2)] [] h (qI Q)) (fun x2 h hV => ?_)
  unfold BLp_X12_drift_29 at hV
  have hP29 : ∀ (x2 : Int) (h : Hp), Go i_X12_drift 29 [(0, .inr (.inr x0)), (1, .inl x1), (2, .inl x2)] [] h (qI Q) → Go i_X12_drift 29 [(0, .inr (.inr x0)), (1, .inl x1), (2, .inl x2)] [] h (qI Q) := fun _ h z => z
  refine s_iload_n d_X12_drift_29 rfl (ma 2 rfl) ?_
  refine s_iload_n d_X12_drift_30 rfl (ma 1 rfl) ?_
  refine s_icmp_ge (tgt := 44) d_X12_drift_31 (by decide) (fun c => ?_) (fun c => ?_)
  · have hV := hV.1 c
    refine s_aload_n d_X12_drift_44 rfl (ma 0 rfl) ?_
    obtain ⟨o, hV⟩ := hV
    refine f_RX12_32g rfl d_X12_drift_45 o ?_
    refine s_iconst d_X12_drift_48 (okn rfl) ?_
    obtain ⟨o, hV⟩ := hV
    refine s_iald d_X12_drift_49 o.1 o.2.1 o.2.2 ?_
    exact s_iret d_X12_drift_50 rfl rfl ⟨_, rfl, hV⟩
  · have hV := hV.2 c
    refine s_aload_n d_X12_drift_34 rfl (ma 0 rfl) ?_
    obtain ⟨o, hV⟩ := hV
    refine v_RX12_235 rfl (Nat.le_of_ble_eq_true rfl) d_X12_drift_35 o (Nat.le_of_ble_eq_true rfl) hV (fun h1 hV => ?_)
    obtain ⟨o, hV⟩ := hV
    refine s_iinc (lv' := [(2, .inl (x2 + 1)), (0, .inr (.inr x0)), (1, .inl x1)]) d_X12_drift_38 (ma 2 rfl) o (Nat.le_of_ble_eq_true rfl) rfl ?_
    refine s_goto (tgt := 29) d_X12_drift_41 (by decide) ?_
    refine s_pick (lv' := [(0, .inr (.inr x0)), (1, .inl x1), (2, .inl (x2 + 1))]) [1, 2, 0] rfl ?_
    exact hP29 _ _ hV
def V_X12_drift (x0 : Nat) (x1 : Int) (h : Hp) (Q : Int → Hp → Prop) : Prop :=
  C_X12_is x1 1 20 h (fun r2 h1 => ((r2 ≠ 0 → (hK h1 x0 = 11 ∧ ((hK h1 (hR h1 x0 14) = 12 ∧ (0 : Int) ≤ 1 ∧ 1 < hL h1 (hR h1 x0 14)) ∧ ((hI h1 (hR h1 x0 14) 1 < 90000 → (Lp_X12_drift_29 x0 x1 0 h1 Q)) ∧ (¬ hI h1 (hR h1 x0 14) 1 < 90000 → (Q (-1000000004) h1)))))) ∧ (r2 = 0 → (Q (-1000000002) h1))))
theorem G_X12_drift {x0 : Nat} {x1 : Int} (h : Hp) (Q : Int → Hp → Prop) (hV : V_X12_drift x0 x1 h Q) : C_X12_drift x0 x1 h Q := by
  unfold V_X12_drift at hV
  show Go i_X12_drift 0 [(0, .inr (.inr x0)), (1, .inl x1)] [] h (qI Q)
  refine s_iload_n d_X12_drift_0 rfl (ma 1 rfl) ?_
  refine s_iconst d_X12_drift_1 (okn rfl) ?_
  refine s_bipush d_X12_drift_2 (by decide) (okn rfl) ?_
  refine v_RX12_90 rfl (Nat.le_of_ble_eq_true rfl) d_X12_drift_4 (Nat.le_of_ble_eq_true rfl) hV (fun r2 h1 hV => ?_)
  refine s_if_ne (tgt := 13) d_X12_drift_7 (by decide) (fun c => ?_) (fun c => ?_)
  · have hV := hV.1 c
    refine s_aload_n d_X12_drift_13 rfl (ma 0 rfl) ?_
    obtain ⟨o, hV⟩ := hV
    refine f_RX12_32g rfl d_X12_drift_14 o ?_
    refine s_iconst d_X12_drift_17 (okn rfl) ?_
    obtain ⟨o, hV⟩ := hV
    refine s_iald d_X12_drift_18 o.1 o.2.1 o.2.2 ?_
    refine s_ldc (n := 90000) d_X12_drift_19 k_RX12_211 (by decide) (okn rfl) ?_
    refine s_icmp_lt (tgt := 27) d_X12_drift_21 (by decide) (fun c => ?_) (fun c => ?_)
    · have hV := hV.1 c
      refine s_iconst d_X12_drift_27 (okn rfl) ?_
      refine s_istore_n (lv' := [(2, .inl 0), (0, .inr (.inr x0)), (1, .inl x1)]) d_X12_drift_28 rfl (Nat.le_of_ble_eq_true rfl) rfl ?_
      refine s_pick (lv' := [(0, .inr (.inr x0)), (1, .inl x1), (2, .inl 0)]) [1, 2, 0] rfl ?_
      exact GLp_X12_drift_29 _ _ _ _ _ hV
    · have hV := hV.2 c
      refine s_ldc (n := (-1000000004)) d_X12_drift_24 k_RX12_98 (by decide) (okn rfl) ?_
      exact s_iret d_X12_drift_26 rfl rfl ⟨_, rfl, hV⟩
  · have hV := hV.2 c
    refine s_ldc (n := (-1000000002)) d_X12_drift_10 k_RX12_94 (by decide) (okn rfl) ?_
    exact s_iret d_X12_drift_12 rfl rfl ⟨_, rfl, hV⟩

theorem d_X12_undo_0 : decode i_X12_undo.2.1 0 = .ok (.iload_n 1, 1) := by decide +kernel
theorem d_X12_undo_1 : decode i_X12_undo.2.1 1 = .ok (.iconst 1, 1) := by decide +kernel
theorem d_X12_undo_2 : decode i_X12_undo.2.1 2 = .ok (.bipush 30, 2) := by decide +kernel
theorem d_X12_undo_4 : decode i_X12_undo.2.1 4 = .ok (.invokestatic 90, 3) := by decide +kernel
theorem d_X12_undo_7 : decode i_X12_undo.2.1 7 = .ok (.ifCond .ne 6, 3) := by decide +kernel
theorem d_X12_undo_10 : decode i_X12_undo.2.1 10 = .ok (.ldc 94, 2) := by decide +kernel
theorem d_X12_undo_12 : decode i_X12_undo.2.1 12 = .ok (.ireturn, 1) := by decide +kernel
theorem d_X12_undo_13 : decode i_X12_undo.2.1 13 = .ok (.iload_n 1, 1) := by decide +kernel
theorem d_X12_undo_14 : decode i_X12_undo.2.1 14 = .ok (.aload_n 0, 1) := by decide +kernel
theorem d_X12_undo_15 : decode i_X12_undo.2.1 15 = .ok (.getfield 143, 3) := by decide +kernel
theorem d_X12_undo_18 : decode i_X12_undo.2.1 18 = .ok (.if_icmp .le 6, 3) := by decide +kernel
theorem d_X12_undo_21 : decode i_X12_undo.2.1 21 = .ok (.ldc 221, 2) := by decide +kernel
theorem d_X12_undo_23 : decode i_X12_undo.2.1 23 = .ok (.ireturn, 1) := by decide +kernel
theorem d_X12_undo_24 : decode i_X12_undo.2.1 24 = .ok (.aload_n 0, 1) := by decide +kernel
theorem d_X12_undo_25 : decode i_X12_undo.2.1 25 = .ok (.dup, 1) := by decide +kernel
theorem d_X12_undo_26 : decode i_X12_undo.2.1 26 = .ok (.getfield 143, 3) := by decide +kernel
theorem d_X12_undo_29 : decode i_X12_undo.2.1 29 = .ok (.iload_n 1, 1) := by decide +kernel
theorem d_X12_undo_30 : decode i_X12_undo.2.1 30 = .ok (.isub, 1) := by decide +kernel
theorem d_X12_undo_31 : decode i_X12_undo.2.1 31 = .ok (.putfield 143, 3) := by decide +kernel
theorem d_X12_undo_34 : decode i_X12_undo.2.1 34 = .ok (.aload_n 0, 1) := by decide +kernel
theorem d_X12_undo_35 : decode i_X12_undo.2.1 35 = .ok (.getfield 35, 3) := by decide +kernel
theorem d_X12_undo_38 : decode i_X12_undo.2.1 38 = .ok (.bipush 103, 2) := by decide +kernel
theorem d_X12_undo_40 : decode i_X12_undo.2.1 40 = .ok (.aload_n 0, 1) := by decide +kernel
theorem d_X12_undo_41 : decode i_X12_undo.2.1 41 = .ok (.getfield 143, 3) := by decide +kernel
theorem d_X12_undo_44 : decode i_X12_undo.2.1 44 = .ok (.imul, 1) := by decide +kernel
theorem d_X12_undo_45 : decode i_X12_undo.2.1 45 = .ok (.aload_n 0, 1) := by decide +kernel
theorem d_X12_undo_46 : decode i_X12_undo.2.1 46 = .ok (.getfield 32, 3) := by decide +kernel
theorem d_X12_undo_49 : decode i_X12_undo.2.1 49 = .ok (.iconst 0, 1) := by decide +kernel
theorem d_X12_undo_50 : decode i_X12_undo.2.1 50 = .ok (.bipush 103, 2) := by decide +kernel
theorem d_X12_undo_52 : decode i_X12_undo.2.1 52 = .ok (.invokestatic 136, 3) := by decide +kernel
theorem d_X12_undo_55 : decode i_X12_undo.2.1 55 = .ok (.aload_n 0, 1) := by decide +kernel
theorem d_X12_undo_56 : decode i_X12_undo.2.1 56 = .ok (.getfield 32, 3) := by decide +kernel
theorem d_X12_undo_59 : decode i_X12_undo.2.1 59 = .ok (.iconst 0, 1) := by decide +kernel
theorem d_X12_undo_60 : decode i_X12_undo.2.1 60 = .ok (.iaload, 1) := by decide +kernel
theorem d_X12_undo_61 : decode i_X12_undo.2.1 61 = .ok (.ireturn, 1) := by decide +kernel
def V_X12_undo (x0 : Nat) (x1 : Int) (h : Hp) (Q : Int → Hp → Prop) : Prop :=
  C_X12_is x1 1 30 h (fun r2 h1 => ((r2 ≠ 0 → (hK h1 x0 = 11 ∧ ((x1 ≤ hI h1 x0 16 → (hK h1 x0 = 11 ∧ (((-2147483648 : Int) ≤ (hI h1 x0 16) - x1 ∧ (hI h1 x0 16) - x1 ≤ (2147483647 : Int)) ∧ (hK h1 x0 = 11 ∧ ∀ h3 : Hp, h3 = wI h1 x0 16 ((hI h1 x0 16) - x1) → (hK h3 x0 = 11 ∧ (hK h3 x0 = 11 ∧ (((-2147483648 : Int) ≤ 103 * (hI h3 x0 16) ∧ 103 * (hI h3 x0 16) ≤ (2147483647 : Int)) ∧ (hK h3 x0 = 11 ∧ (C_X12_bring (hR h3 x0 15) (103 * (hI h3 x0 16)) (hR h3 x0 14) 0 103 h3 (fun h4 => (hK h4 x0 = 11 ∧ ((hK h4 (hR h4 x0 14) = 12 ∧ (0 : Int) ≤ 0 ∧ 0 < hL h4 (hR h4 x0 14)) ∧ (Q (hI h4 (hR h4 x0 14) 0) h4))))))))))))) ∧ (¬ x1 ≤ hI h1 x0 16 → (Q (-1000000003) h1))))) ∧ (r2 = 0 → (Q (-1000000002) h1))))
theorem G_X12_undo {x0 : Nat} {x1 : Int} (h : Hp) (Q : Int → Hp → Prop) (hV : V_X12_undo x0 x1 h Q) : C_X12_undo x0 x1 h Q := by
  unfold V_X12_undo at hV
  show Go i_X12_undo 0 [(0, .inr (.inr x0)), (1, .inl x1)] [] h (qI Q)
  refine s_iload_n d_X12_undo_0 rfl (ma 1 rfl) ?_
  refine s_iconst d_X12_undo_1 (okn rfl) ?_
  refine s_bipush d_X12_undo_2 (by decide) (okn rfl) ?_
  refine v_RX12_90 rfl (Nat.le_of_ble_eq_true rfl) d_X12_undo_4 (Nat.le_of_ble_eq_true rfl) hV (fun r2 h1 hV => ?_)
  refine s_if_ne (tgt := 13) d_X12_undo_7 (by decide) (fun c => ?_) (fun c => ?_)
  · have hV := hV.1 c
    refine s_iload_n d_X12_undo_13 rfl (ma 1 rfl) ?_
    refine s_aload_n d_X12_undo_14 rfl (ma 0 rfl) ?_
    obtain ⟨o, hV⟩ := hV
    refine f_RX12_143g rfl d_X12_undo_15 o ?_
    refine s_icmp_le (tgt := 24) d_X12_undo_18 (by decide) (fun c => ?_) (fun c => ?_)
    · have hV := hV.1 c
      refine s_aload_n d_X12_undo_24 rfl (ma 0 rfl) ?_
      refine s_dup d_X12_undo_25 rfl ?_
      obtain ⟨o, hV⟩ := hV
      refine f_RX12_143g rfl d_X12_undo_26 o ?_
      refine s_iload_n d_X12_undo_29 rfl (ma 1 rfl) ?_
      obtain ⟨o, hV⟩ := hV
      refine s_isub d_X12_undo_30 o ?_
      obtain ⟨o, hV⟩ := hV
      refine f_RX12_143p rfl d_X12_undo_31 o (fun h3 eh3 => ?_)
      have hV := hV h3 eh3
      refine s_aload_n d_X12_undo_34 rfl (ma 0 rfl) ?_
      obtain ⟨o, hV⟩ := hV
      refine f_RX12_35g rfl d_X12_undo_35 o ?_
      refine s_bipush d_X12_undo_38 (by decide) (okn rfl) ?_
      refine s_aload_n d_X12_undo_40 rfl (ma 0 rfl) ?_
      obtain ⟨o, hV⟩ := hV
      refine f_RX12_143g rfl d_X12_undo_41 o ?_
      obtain ⟨o, hV⟩ := hV
      refine s_imul d_X12_undo_44 o ?_
      refine s_aload_n d_X12_undo_45 rfl (ma 0 rfl) ?_
      obtain ⟨o, hV⟩ := hV
      refine f_RX12_32g rfl d_X12_undo_46 o ?_
      refine s_iconst d_X12_undo_49 (okn rfl) ?_
      refine s_bipush d_X12_undo_50 (by decide) (okn rfl) ?_
      refine v_RX12_136 rfl (Nat.le_of_ble_eq_true rfl) d_X12_undo_52 (Nat.le_of_ble_eq_true rfl) hV (fun h4 hV => ?_)
      refine s_aload_n d_X12_undo_55 rfl (ma 0 rfl) ?_
      obtain ⟨o, hV⟩ := hV
      refine f_RX12_32g rfl d_X12_undo_56 o ?_
      refine s_iconst d_X12_undo_59 (okn rfl) ?_
      obtain ⟨o, hV⟩ := hV
      refine s_iald d_X12_undo_60 o.1 o.2.1 o.2.2 ?_
      exact s_iret d_X12_undo_61 rfl rfl ⟨_, rfl, hV⟩
    · have hV := hV.2 c
      refine s_ldc (n := (-1000000003)) d_X12_undo_21 k_RX12_221 (by decide) (okn rfl) ?_
      exact s_iret d_X12_undo_23 rfl rfl ⟨_, rfl, hV⟩
  · have hV := hV.2 c
    refine s_ldc (n := (-1000000002)) d_X12_undo_10 k_RX12_94 (by decide) (okn rfl) ?_
    exact s_iret d_X12_undo_12 rfl rfl ⟨_, rfl, hV⟩

theorem d_X12_readOn_0 : decode i_X12_readOn.2.1 0 = .ok (.aload_n 0, 1) := by decide +kernel
theorem d_X12_readOn_1 : decode i_X12_readOn.2.1 1 = .ok (.invokevirtual 205, 3) := by decide +kernel
theorem d_X12_readOn_4 : decode i_X12_readOn.2.1 4 = .ok (.iconst 0, 1) := by decide +kernel
theorem d_X12_readOn_5 : decode i_X12_readOn.2.1 5 = .ok (.istore_n 3, 1) := by decide +kernel
theorem d_X12_readOn_6 : decode i_X12_readOn.2.1 6 = .ok (.iload_n 3, 1) := by decide +kernel
theorem d_X12_readOn_7 : decode i_X12_readOn.2.1 7 = .ok (.iload_n 2, 1) := by decide +kernel
theorem d_X12_readOn_8 : decode i_X12_readOn.2.1 8 = .ok (.if_icmp .ge 14, 3) := by decide +kernel
theorem d_X12_readOn_11 : decode i_X12_readOn.2.1 11 = .ok (.aload_n 0, 1) := by decide +kernel
theorem d_X12_readOn_12 : decode i_X12_readOn.2.1 12 = .ok (.iload_n 1, 1) := by decide +kernel
theorem d_X12_readOn_13 : decode i_X12_readOn.2.1 13 = .ok (.invokevirtual 208, 3) := by decide +kernel
theorem d_X12_readOn_16 : decode i_X12_readOn.2.1 16 = .ok (.iinc 3 1, 3) := by decide +kernel
theorem d_X12_readOn_19 : decode i_X12_readOn.2.1 19 = .ok (.goto (-13), 3) := by decide +kernel
theorem d_X12_readOn_22 : decode i_X12_readOn.2.1 22 = .ok (.return_, 1) := by decide +kernel
def BLp_X12_readOn_6 (x0 : Nat) (x1 : Int) (x2 : Int) (P6 : Int → Hp → Prop) (x3 : Int) (h : Hp) (Q : Hp → Prop) : Prop :=
  (x2 ≤ x3 → (Q h)) ∧ (¬ x2 ≤ x3 → (hK h x0 = 11 ∧ C_X12_reads x0 x1 h (fun h1 => (((-2147483648 : Int) ≤ x3 + 1 ∧ x3 + 1 ≤ (2147483647 : Int)) ∧ (P6 (x3 + 1) h1)))))
def Lp_X12_readOn_6 (x0 : Nat) (x1 : Int) (x2 : Int) (x3 : Int) (h : Hp) (Q : Hp → Prop) : Prop := ∀ P6 : Int → Hp → Prop, (∀ (x3 : Int) (h : Hp), BLp_X12_readOn_6 x0 x1 x2 P6 x3 h Q → P6 x3 h) → P6 x3 h
theorem Lp_X12_readOn_6_ind {x0 : Nat} {x1 : Int} {x2 : Int} {Q : Hp → Prop} (I : Int → Hp → Prop) (μ : Int → Hp → Nat) (hs : ∀ (P6 : Int → Hp → Prop) (x3 : Int) (h : Hp), I x3 h → (∀ (x3' : Int) (h' : Hp), I x3' h' → μ x3' h' < μ x3 h → P6 x3' h') → BLp_X12_readOn_6 x0 x1 x2 P6 x3 h Q) : ∀ (x3 : Int) (h : Hp), I x3 h → Lp_X12_readOn_6 x0 x1 x2 x3 h Q := by
  intro x3 h hI P6 hP
  have key : ∀ (n : Nat) (x3 : Int) (h : Hp), I x3 h → μ x3 h < n → P6 x3 h := by
    intro n
    induction n with
    | zero => intro x3 h _ hl; exact absurd hl (Nat.not_lt_zero _)
    | succ n ih => intro x3 h hi hl; exact hP x3 h (hs P6 x3 h hi (fun x3 h' hi' hl' => ih x3 h' hi' (by omega)))
  exact key _ x3 h hI (Nat.lt_succ_self _)
theorem GLp_X12_readOn_6 (x0 : Nat) (x1 : Int) (x2 : Int) (x3 : Int) (h : Hp) (Q : Hp → Prop) (hV : Lp_X12_readOn_6 x0 x1 x2 x3 h Q) : Go i_X12_readOn 6 [(0, .inr (.inr x0)), (1, .inl x1), (2, .inl x2), (3, .inl x3)] [] h (qV Q) := by
  refine hV (fun x3 h => Go i_X12_readOn 6 [(0, .inr (.inr x0)), (1, .inl x1), (2, .inl x2), (3, .inl x3)] [] h (qV Q)) (fun x3 h hV => ?_)
  unfold BLp_X12_readOn_6 at hV
  have hP6 : ∀ (x3 : Int) (h : Hp), Go i_X12_readOn 6 [(0, .inr (.inr x0)), (1, .inl x1), (2, .inl x2), (3, .inl x3)] [] h (qV Q) → Go i_X12_readOn 6 [(0, .inr (.inr x0)), (1, .inl x1), (2, .inl x2), (3, .inl x3)] [] h (qV Q) := fun _ h z => z
  refine s_iload_n d_X12_readOn_6 rfl (ma 3 rfl) ?_
  refine s_iload_n d_X12_readOn_7 rfl (ma 2 rfl) ?_
  refine s_icmp_ge (tgt := 22) d_X12_readOn_8 (by decide) (fun c => ?_) (fun c => ?_)
  · have hV := hV.1 c
    exact s_vret d_X12_readOn_22 rfl ⟨rfl, hV⟩
  · have hV := hV.2 c
    refine s_aload_n d_X12_readOn_11 rfl (ma 0 rfl) ?_
    refine s_iload_n d_X12_readOn_12 rfl (ma 1 rfl) ?_
    obtain ⟨o, hV⟩ := hV
    refine v_RX12_208 rfl (Nat.le_of_ble_eq_true rfl) d_X12_readOn_13 o (Nat.le_of_ble_eq_true rfl) hV (fun h1 hV => ?_)
    obtain ⟨o, hV⟩ := hV
    refine s_iinc (lv' := [(3, .inl (x3 + 1)), (0, .inr (.inr x0)), (1, .inl x1), (2, .inl x2)]) d_X12_readOn_16 (ma 3 rfl) o (Nat.le_of_ble_eq_true rfl) rfl ?_
    refine s_goto (tgt := 6) d_X12_readOn_19 (by decide) ?_
    refine s_pick (lv' := [(0, .inr (.inr x0)), (1, .inl x1), (2, .inl x2), (3, .inl (x3 + 1))]) [1, 2, 3, 0] rfl ?_
    exact hP6 _ _ hV
def V_X12_readOn (x0 : Nat) (x1 : Int) (x2 : Int) (h : Hp) (Q : Hp → Prop) : Prop :=
  hK h x0 = 11 ∧ C_X12_begin x0  h (fun h1 => (Lp_X12_readOn_6 x0 x1 x2 0 h1 Q))
theorem G_X12_readOn {x0 : Nat} {x1 : Int} {x2 : Int} (h : Hp) (Q : Hp → Prop) (hV : V_X12_readOn x0 x1 x2 h Q) : C_X12_readOn x0 x1 x2 h Q := by
  unfold V_X12_readOn at hV
  show Go i_X12_readOn 0 [(0, .inr (.inr x0)), (1, .inl x1), (2, .inl x2)] [] h (qV Q)
  refine s_aload_n d_X12_readOn_0 rfl (ma 0 rfl) ?_
  obtain ⟨o, hV⟩ := hV
  refine v_RX12_205 rfl (Nat.le_of_ble_eq_true rfl) d_X12_readOn_1 o (Nat.le_of_ble_eq_true rfl) hV (fun h1 hV => ?_)
  refine s_iconst d_X12_readOn_4 (okn rfl) ?_
  refine s_istore_n (lv' := [(3, .inl 0), (0, .inr (.inr x0)), (1, .inl x1), (2, .inl x2)]) d_X12_readOn_5 rfl (Nat.le_of_ble_eq_true rfl) rfl ?_
  refine s_pick (lv' := [(0, .inr (.inr x0)), (1, .inl x1), (2, .inl x2), (3, .inl 0)]) [1, 2, 3, 0] rfl ?_
  exact GLp_X12_readOn_6 _ _ _ _ _ _ hV

theorem d_X12_isTried_0 : decode i_X12_isTried.2.1 0 = .ok (.iload_n 0, 1) := by decide +kernel
theorem d_X12_isTried_1 : decode i_X12_isTried.2.1 1 = .ok (.iconst 0, 1) := by decide +kernel
theorem d_X12_isTried_2 : decode i_X12_isTried.2.1 2 = .ok (.iconst 5, 1) := by decide +kernel
theorem d_X12_isTried_3 : decode i_X12_isTried.2.1 3 = .ok (.invokestatic 90, 3) := by decide +kernel
theorem d_X12_isTried_6 : decode i_X12_isTried.2.1 6 = .ok (.ifCond .eq 17, 3) := by decide +kernel
theorem d_X12_isTried_9 : decode i_X12_isTried.2.1 9 = .ok (.iload_n 1, 1) := by decide +kernel
theorem d_X12_isTried_10 : decode i_X12_isTried.2.1 10 = .ok (.iconst 0, 1) := by decide +kernel
theorem d_X12_isTried_11 : decode i_X12_isTried.2.1 11 = .ok (.bipush 8, 2) := by decide +kernel
theorem d_X12_isTried_13 : decode i_X12_isTried.2.1 13 = .ok (.invokestatic 90, 3) := by decide +kernel
theorem d_X12_isTried_16 : decode i_X12_isTried.2.1 16 = .ok (.ifCond .eq 7, 3) := by decide +kernel
theorem d_X12_isTried_19 : decode i_X12_isTried.2.1 19 = .ok (.iconst 1, 1) := by decide +kernel
theorem d_X12_isTried_20 : decode i_X12_isTried.2.1 20 = .ok (.goto 4, 3) := by decide +kernel
theorem d_X12_isTried_23 : decode i_X12_isTried.2.1 23 = .ok (.iconst 0, 1) := by decide +kernel
theorem d_X12_isTried_24 : decode i_X12_isTried.2.1 24 = .ok (.ireturn, 1) := by decide +kernel
def V_X12_isTried (x0 : Int) (x1 : Int) (h : Hp) (Q : Int → Hp → Prop) : Prop :=
  C_X12_is x0 0 5 h (fun r2 h1 => ((r2 = 0 → (Q 0 h1)) ∧ (¬ r2 = 0 → (C_X12_is x1 0 8 h1 (fun r4 h3 => ((r4 = 0 → (Q 0 h3)) ∧ (¬ r4 = 0 → (Q 1 h3))))))))
theorem G_X12_isTried {x0 : Int} {x1 : Int} (h : Hp) (Q : Int → Hp → Prop) (hV : V_X12_isTried x0 x1 h Q) : C_X12_isTried x0 x1 h Q := by
  unfold V_X12_isTried at hV
  show Go i_X12_isTried 0 [(0, .inl x0), (1, .inl x1)] [] h (qI Q)
  refine s_iload_n d_X12_isTried_0 rfl (ma 0 rfl) ?_
  refine s_iconst d_X12_isTried_1 (okn rfl) ?_
  refine s_iconst d_X12_isTried_2 (okn rfl) ?_
  refine v_RX12_90 rfl (Nat.le_of_ble_eq_true rfl) d_X12_isTried_3 (Nat.le_of_ble_eq_true rfl) hV (fun r2 h1 hV => ?_)
  refine s_if_eq (tgt := 23) d_X12_isTried_6 (by decide) (fun c => ?_) (fun c => ?_)
  · have hV := hV.1 c
    refine s_iconst d_X12_isTried_23 (okn rfl) ?_
    exact s_iret d_X12_isTried_24 rfl (nar_z (Or.inl rfl)) ⟨_, rfl, hV⟩
  · have hV := hV.2 c
    refine s_iload_n d_X12_isTried_9 rfl (ma 1 rfl) ?_
    refine s_iconst d_X12_isTried_10 (okn rfl) ?_
    refine s_bipush d_X12_isTried_11 (by decide) (okn rfl) ?_
    refine v_RX12_90 rfl (Nat.le_of_ble_eq_true rfl) d_X12_isTried_13 (Nat.le_of_ble_eq_true rfl) hV (fun r4 h3 hV => ?_)
    refine s_if_eq (tgt := 23) d_X12_isTried_16 (by decide) (fun c => ?_) (fun c => ?_)
    · have hV := hV.1 c
      refine s_iconst d_X12_isTried_23 (okn rfl) ?_
      exact s_iret d_X12_isTried_24 rfl (nar_z (Or.inl rfl)) ⟨_, rfl, hV⟩
    · have hV := hV.2 c
      refine s_iconst d_X12_isTried_19 (okn rfl) ?_
      refine s_goto (tgt := 24) d_X12_isTried_20 (by decide) ?_
      exact s_iret d_X12_isTried_24 rfl (nar_z (Or.inr rfl)) ⟨_, rfl, hV⟩

theorem d_X12_length_0 : decode i_X12_length.2.1 0 = .ok (.iload_n 1, 1) := by decide +kernel
theorem d_X12_length_1 : decode i_X12_length.2.1 1 = .ok (.iload_n 2, 1) := by decide +kernel
theorem d_X12_length_2 : decode i_X12_length.2.1 2 = .ok (.invokestatic 238, 3) := by decide +kernel
theorem d_X12_length_5 : decode i_X12_length.2.1 5 = .ok (.ifCond .ne 6, 3) := by decide +kernel
theorem d_X12_length_8 : decode i_X12_length.2.1 8 = .ok (.ldc 94, 2) := by decide +kernel
theorem d_X12_length_10 : decode i_X12_length.2.1 10 = .ok (.ireturn, 1) := by decide +kernel
theorem d_X12_length_11 : decode i_X12_length.2.1 11 = .ok (.aload_n 0, 1) := by decide +kernel
theorem d_X12_length_12 : decode i_X12_length.2.1 12 = .ok (.iload_n 1, 1) := by decide +kernel
theorem d_X12_length_13 : decode i_X12_length.2.1 13 = .ok (.iload_n 2, 1) := by decide +kernel
theorem d_X12_length_14 : decode i_X12_length.2.1 14 = .ok (.invokevirtual 241, 3) := by decide +kernel
theorem d_X12_length_17 : decode i_X12_length.2.1 17 = .ok (.aload_n 0, 1) := by decide +kernel
theorem d_X12_length_18 : decode i_X12_length.2.1 18 = .ok (.getfield 186, 3) := by decide +kernel
theorem d_X12_length_21 : decode i_X12_length.2.1 21 = .ok (.ireturn, 1) := by decide +kernel
def V_X12_length (x0 : Nat) (x1 : Int) (x2 : Int) (h : Hp) (Q : Int → Hp → Prop) : Prop :=
  C_X12_isTried x1 x2 h (fun r2 h1 => ((r2 ≠ 0 → (hK h1 x0 = 11 ∧ C_X12_readOn x0 x1 x2 h1 (fun h3 => (hK h3 x0 = 11 ∧ (Q (hI h3 x0 29) h3))))) ∧ (r2 = 0 → (Q (-1000000002) h1))))
theorem G_X12_length {x0 : Nat} {x1 : Int} {x2 : Int} (h : Hp) (Q : Int → Hp → Prop) (hV : V_X12_length x0 x1 x2 h Q) : C_X12_length x0 x1 x2 h Q := by
  unfold V_X12_length at hV
  show Go i_X12_length 0 [(0, .inr (.inr x0)), (1, .inl x1), (2, .inl x2)] [] h (qI Q)
  refine s_iload_n d_X12_length_0 rfl (ma 1 rfl) ?_
  refine s_iload_n d_X12_length_1 rfl (ma 2 rfl) ?_
  refine v_RX12_238 rfl (Nat.le_of_ble_eq_true rfl) d_X12_length_2 (Nat.le_of_ble_eq_true rfl) hV (fun r2 h1 hV => ?_)
  refine s_if_ne (tgt := 11) d_X12_length_5 (by decide) (fun c => ?_) (fun c => ?_)
  · have hV := hV.1 c
    refine s_aload_n d_X12_length_11 rfl (ma 0 rfl) ?_
    refine s_iload_n d_X12_length_12 rfl (ma 1 rfl) ?_
    refine s_iload_n d_X12_length_13 rfl (ma 2 rfl) ?_
    obtain ⟨o, hV⟩ := hV
    refine v_RX12_241 rfl (Nat.le_of_ble_eq_true rfl) d_X12_length_14 o (Nat.le_of_ble_eq_true rfl) hV (fun h3 hV => ?_)
    refine s_aload_n d_X12_length_17 rfl (ma 0 rfl) ?_
    obtain ⟨o, hV⟩ := hV
    refine f_RX12_186g rfl d_X12_length_18 o ?_
    exact s_iret d_X12_length_21 rfl rfl ⟨_, rfl, hV⟩
  · have hV := hV.2 c
    refine s_ldc (n := (-1000000002)) d_X12_length_8 k_RX12_94 (by decide) (okn rfl) ?_
    exact s_iret d_X12_length_10 rfl rfl ⟨_, rfl, hV⟩

theorem d_X12_figure_0 : decode i_X12_figure.2.1 0 = .ok (.iload_n 1, 1) := by decide +kernel
theorem d_X12_figure_1 : decode i_X12_figure.2.1 1 = .ok (.iload_n 2, 1) := by decide +kernel
theorem d_X12_figure_2 : decode i_X12_figure.2.1 2 = .ok (.invokestatic 238, 3) := by decide +kernel
theorem d_X12_figure_5 : decode i_X12_figure.2.1 5 = .ok (.ifCond .eq 14, 3) := by decide +kernel
theorem d_X12_figure_8 : decode i_X12_figure.2.1 8 = .ok (.iload_n 3, 1) := by decide +kernel
theorem d_X12_figure_9 : decode i_X12_figure.2.1 9 = .ok (.iconst 0, 1) := by decide +kernel
theorem d_X12_figure_10 : decode i_X12_figure.2.1 10 = .ok (.sipush 15359, 3) := by decide +kernel
theorem d_X12_figure_13 : decode i_X12_figure.2.1 13 = .ok (.invokestatic 90, 3) := by decide +kernel
theorem d_X12_figure_16 : decode i_X12_figure.2.1 16 = .ok (.ifCond .ne 6, 3) := by decide +kernel
theorem d_X12_figure_19 : decode i_X12_figure.2.1 19 = .ok (.ldc 94, 2) := by decide +kernel
theorem d_X12_figure_21 : decode i_X12_figure.2.1 21 = .ok (.ireturn, 1) := by decide +kernel
theorem d_X12_figure_22 : decode i_X12_figure.2.1 22 = .ok (.aload_n 0, 1) := by decide +kernel
theorem d_X12_figure_23 : decode i_X12_figure.2.1 23 = .ok (.iload_n 1, 1) := by decide +kernel
theorem d_X12_figure_24 : decode i_X12_figure.2.1 24 = .ok (.iload_n 2, 1) := by decide +kernel
theorem d_X12_figure_25 : decode i_X12_figure.2.1 25 = .ok (.invokevirtual 241, 3) := by decide +kernel
theorem d_X12_figure_28 : decode i_X12_figure.2.1 28 = .ok (.iload_n 3, 1) := by decide +kernel
theorem d_X12_figure_29 : decode i_X12_figure.2.1 29 = .ok (.aload_n 0, 1) := by decide +kernel
theorem d_X12_figure_30 : decode i_X12_figure.2.1 30 = .ok (.getfield 186, 3) := by decide +kernel
theorem d_X12_figure_33 : decode i_X12_figure.2.1 33 = .ok (.if_icmp .ge 12, 3) := by decide +kernel
theorem d_X12_figure_36 : decode i_X12_figure.2.1 36 = .ok (.aload_n 0, 1) := by decide +kernel
theorem d_X12_figure_37 : decode i_X12_figure.2.1 37 = .ok (.getfield 63, 3) := by decide +kernel
theorem d_X12_figure_40 : decode i_X12_figure.2.1 40 = .ok (.iload_n 3, 1) := by decide +kernel
theorem d_X12_figure_41 : decode i_X12_figure.2.1 41 = .ok (.iaload, 1) := by decide +kernel
theorem d_X12_figure_42 : decode i_X12_figure.2.1 42 = .ok (.goto 4, 3) := by decide +kernel
theorem d_X12_figure_45 : decode i_X12_figure.2.1 45 = .ok (.iconst (-1), 1) := by decide +kernel
theorem d_X12_figure_46 : decode i_X12_figure.2.1 46 = .ok (.ireturn, 1) := by decide +kernel
def V_X12_figure (x0 : Nat) (x1 : Int) (x2 : Int) (x3 : Int) (h : Hp) (Q : Int → Hp → Prop) : Prop :=
  C_X12_isTried x1 x2 h (fun r2 h1 => ((r2 = 0 → (Q (-1000000002) h1)) ∧ (¬ r2 = 0 → (C_X12_is x3 0 15359 h1 (fun r4 h3 => ((r4 ≠ 0 → (hK h3 x0 = 11 ∧ C_X12_readOn x0 x1 x2 h3 (fun h5 => (hK h5 x0 = 11 ∧ ((hI h5 x0 29 ≤ x3 → (Q (-1) h5)) ∧ (¬ hI h5 x0 29 ≤ x3 → (hK h5 x0 = 11 ∧ ((hK h5 (hR h5 x0 28) = 12 ∧ (0 : Int) ≤ x3 ∧ x3 < hL h5 (hR h5 x0 28)) ∧ (Q (hI h5 (hR h5 x0 28) x3) h5))))))))) ∧ (r4 = 0 → (Q (-1000000002) h3))))))))
theorem G_X12_figure {x0 : Nat} {x1 : Int} {x2 : Int} {x3 : Int} (h : Hp) (Q : Int → Hp → Prop) (hV : V_X12_figure x0 x1 x2 x3 h Q) : C_X12_figure x0 x1 x2 x3 h Q := by
  unfold V_X12_figure at hV
  show Go i_X12_figure 0 [(0, .inr (.inr x0)), (1, .inl x1), (2, .inl x2), (3, .inl x3)] [] h (qI Q)
  refine s_iload_n d_X12_figure_0 rfl (ma 1 rfl) ?_
  refine s_iload_n d_X12_figure_1 rfl (ma 2 rfl) ?_
  refine v_RX12_238 rfl (Nat.le_of_ble_eq_true rfl) d_X12_figure_2 (Nat.le_of_ble_eq_true rfl) hV (fun r2 h1 hV => ?_)
  refine s_if_eq (tgt := 19) d_X12_figure_5 (by decide) (fun c => ?_) (fun c => ?_)
  · have hV := hV.1 c
    refine s_ldc (n := (-1000000002)) d_X12_figure_19 k_RX12_94 (by decide) (okn rfl) ?_
    exact s_iret d_X12_figure_21 rfl rfl ⟨_, rfl, hV⟩
  · have hV := hV.2 c
    refine s_iload_n d_X12_figure_8 rfl (ma 3 rfl) ?_
    refine s_iconst d_X12_figure_9 (okn rfl) ?_
    refine s_sipush d_X12_figure_10 (by decide) (okn rfl) ?_
    refine v_RX12_90 rfl (Nat.le_of_ble_eq_true rfl) d_X12_figure_13 (Nat.le_of_ble_eq_true rfl) hV (fun r4 h3 hV => ?_)
    refine s_if_ne (tgt := 22) d_X12_figure_16 (by decide) (fun c => ?_) (fun c => ?_)
    · have hV := hV.1 c
      refine s_aload_n d_X12_figure_22 rfl (ma 0 rfl) ?_
      refine s_iload_n d_X12_figure_23 rfl (ma 1 rfl) ?_
      refine s_iload_n d_X12_figure_24 rfl (ma 2 rfl) ?_
      obtain ⟨o, hV⟩ := hV
      refine v_RX12_241 rfl (Nat.le_of_ble_eq_true rfl) d_X12_figure_25 o (Nat.le_of_ble_eq_true rfl) hV (fun h5 hV => ?_)
      refine s_iload_n d_X12_figure_28 rfl (ma 3 rfl) ?_
      refine s_aload_n d_X12_figure_29 rfl (ma 0 rfl) ?_
      obtain ⟨o, hV⟩ := hV
      refine f_RX12_186g rfl d_X12_figure_30 o ?_
      refine s_icmp_ge (tgt := 45) d_X12_figure_33 (by decide) (fun c => ?_) (fun c => ?_)
      · have hV := hV.1 c
        refine s_iconst d_X12_figure_45 (okn rfl) ?_
        exact s_iret d_X12_figure_46 rfl rfl ⟨_, rfl, hV⟩
      · have hV := hV.2 c
        refine s_aload_n d_X12_figure_36 rfl (ma 0 rfl) ?_
        obtain ⟨o, hV⟩ := hV
        refine f_RX12_63g rfl d_X12_figure_37 o ?_
        refine s_iload_n d_X12_figure_40 rfl (ma 3 rfl) ?_
        obtain ⟨o, hV⟩ := hV
        refine s_iald d_X12_figure_41 o.1 o.2.1 o.2.2 ?_
        refine s_goto (tgt := 46) d_X12_figure_42 (by decide) ?_
        exact s_iret d_X12_figure_46 rfl rfl ⟨_, rfl, hV⟩
    · have hV := hV.2 c
      refine s_ldc (n := (-1000000002)) d_X12_figure_19 k_RX12_94 (by decide) (okn rfl) ?_
      exact s_iret d_X12_figure_21 rfl rfl ⟨_, rfl, hV⟩

theorem d_X12_oftenThere_0 : decode i_X12_oftenThere.2.1 0 = .ok (.iconst 0, 1) := by decide +kernel
theorem d_X12_oftenThere_1 : decode i_X12_oftenThere.2.1 1 = .ok (.istore_n 2, 1) := by decide +kernel
theorem d_X12_oftenThere_2 : decode i_X12_oftenThere.2.1 2 = .ok (.iconst 0, 1) := by decide +kernel
theorem d_X12_oftenThere_3 : decode i_X12_oftenThere.2.1 3 = .ok (.istore_n 3, 1) := by decide +kernel
theorem d_X12_oftenThere_4 : decode i_X12_oftenThere.2.1 4 = .ok (.iload_n 3, 1) := by decide +kernel
theorem d_X12_oftenThere_5 : decode i_X12_oftenThere.2.1 5 = .ok (.aload_n 0, 1) := by decide +kernel
theorem d_X12_oftenThere_6 : decode i_X12_oftenThere.2.1 6 = .ok (.getfield 186, 3) := by decide +kernel
theorem d_X12_oftenThere_9 : decode i_X12_oftenThere.2.1 9 = .ok (.if_icmp .ge 27, 3) := by decide +kernel
theorem d_X12_oftenThere_12 : decode i_X12_oftenThere.2.1 12 = .ok (.iload_n 2, 1) := by decide +kernel
theorem d_X12_oftenThere_13 : decode i_X12_oftenThere.2.1 13 = .ok (.aload_n 0, 1) := by decide +kernel
theorem d_X12_oftenThere_14 : decode i_X12_oftenThere.2.1 14 = .ok (.getfield 63, 3) := by decide +kernel
theorem d_X12_oftenThere_17 : decode i_X12_oftenThere.2.1 17 = .ok (.iload_n 3, 1) := by decide +kernel
theorem d_X12_oftenThere_18 : decode i_X12_oftenThere.2.1 18 = .ok (.iaload, 1) := by decide +kernel
theorem d_X12_oftenThere_19 : decode i_X12_oftenThere.2.1 19 = .ok (.iload_n 1, 1) := by decide +kernel
theorem d_X12_oftenThere_20 : decode i_X12_oftenThere.2.1 20 = .ok (.if_icmp .ne 7, 3) := by decide +kernel
theorem d_X12_oftenThere_23 : decode i_X12_oftenThere.2.1 23 = .ok (.iconst 1, 1) := by decide +kernel
theorem d_X12_oftenThere_24 : decode i_X12_oftenThere.2.1 24 = .ok (.goto 4, 3) := by decide +kernel
theorem d_X12_oftenThere_27 : decode i_X12_oftenThere.2.1 27 = .ok (.iconst 0, 1) := by decide +kernel
theorem d_X12_oftenThere_28 : decode i_X12_oftenThere.2.1 28 = .ok (.iadd, 1) := by decide +kernel
theorem d_X12_oftenThere_29 : decode i_X12_oftenThere.2.1 29 = .ok (.istore_n 2, 1) := by decide +kernel
theorem d_X12_oftenThere_30 : decode i_X12_oftenThere.2.1 30 = .ok (.iinc 3 1, 3) := by decide +kernel
theorem d_X12_oftenThere_33 : decode i_X12_oftenThere.2.1 33 = .ok (.goto (-29), 3) := by decide +kernel
theorem d_X12_oftenThere_36 : decode i_X12_oftenThere.2.1 36 = .ok (.iload_n 2, 1) := by decide +kernel
theorem d_X12_oftenThere_37 : decode i_X12_oftenThere.2.1 37 = .ok (.ireturn, 1) := by decide +kernel
def BLp_X12_oftenThere_4 (x0 : Nat) (x1 : Int) (P4 : Int → Int → Hp → Prop) (x2 : Int) (x3 : Int) (h : Hp) (Q : Int → Hp → Prop) : Prop :=
  hK h x0 = 11 ∧ ((hI h x0 29 ≤ x3 → (Q x2 h)) ∧ (¬ hI h x0 29 ≤ x3 → (hK h x0 = 11 ∧ ((hK h (hR h x0 28) = 12 ∧ (0 : Int) ≤ x3 ∧ x3 < hL h (hR h x0 28)) ∧ ((hI h (hR h x0 28) x3 ≠ x1 → (((-2147483648 : Int) ≤ x2 + 0 ∧ x2 + 0 ≤ (2147483647 : Int)) ∧ (∀ x2_1 : Int, x2_1 = x2 + 0 → (((-2147483648 : Int) ≤ x3 + 1 ∧ x3 + 1 ≤ (2147483647 : Int)) ∧ (P4 x2_1 (x3 + 1) h))))) ∧ (hI h (hR h x0 28) x3 = x1 → (((-2147483648 : Int) ≤ x2 + 1 ∧ x2 + 1 ≤ (2147483647 : Int)) ∧ (∀ x2_2 : Int, x2_2 = x2 + 1 → (((-2147483648 : Int) ≤ x3 + 1 ∧ x3 + 1 ≤ (2147483647 : Int)) ∧ (P4 x2_2 (x3 + 1) h))))))))))
def Lp_X12_oftenThere_4 (x0 : Nat) (x1 : Int) (x2 : Int) (x3 : Int) (h : Hp) (Q : Int → Hp → Prop) : Prop := ∀ P4 : Int → Int → Hp → Prop, (∀ (x2 : Int) (x3 : Int) (h : Hp), BLp_X12_oftenThere_4 x0 x1 P4 x2 x3 h Q → P4 x2 x3 h) → P4 x2 x3 h
theorem Lp_X12_oftenThere_4_ind {x0 : Nat} {x1 : Int} {Q : Int → Hp → Prop} (I : Int → Int → Hp → Prop) (μ : Int → Int → Hp → Nat) (hs : ∀ (P4 : Int → Int → Hp → Prop) (x2 : Int) (x3 : Int) (h : Hp), I x2 x3 h → (∀ (x2' : Int) (x3' : Int) (h' : Hp), I x2' x3' h' → μ x2' x3' h' < μ x2 x3 h → P4 x2' x3' h') → BLp_X12_oftenThere_4 x0 x1 P4 x2 x3 h Q) : ∀ (x2 : Int) (x3 : Int) (h : Hp), I x2 x3 h → Lp_X12_oftenThere_4 x0 x1 x2 x3 h Q := by
  intro x2 x3 h hI P4 hP
  have key : ∀ (n : Nat) (x2 : Int) (x3 : Int) (h : Hp), I x2 x3 h → μ x2 x3 h < n → P4 x2 x3 h := by
    intro n
    induction n with
    | zero => intro x2 x3 h _ hl; exact absurd hl (Nat.not_lt_zero _)
    | succ n ih => intro x2 x3 h hi hl; exact hP x2 x3 h (hs P4 x2 x3 h hi (fun x2 x3 h' hi' hl' => ih x2 x3 h' hi' (by omega)))
  exact key _ x2 x3 h hI (Nat.lt_succ_self _)
theorem GLp_X12_oftenThere_4 (x0 : Nat) (x1 : Int) (x2 : Int) (x3 : Int) (h : Hp) (Q : Int → Hp → Prop) (hV : Lp_X12_oftenThere_4 x0 x1 x2 x3 h Q) : Go i_X12_oftenThere 4 [(0, .inr (.inr x0)), (1, .inl x1), (2, .inl x2), (3, .inl x3)] [] h (qI Q) := by
  refine hV (fun x2 x3 h => Go i_X12_oftenThere 4 [(0, .inr (.inr x0)), (1, .inl x1), (2, .inl x2), (3, .inl x3)] [] h (qI Q)) (fun x2 x3 h hV => ?_)
  unfold BLp_X12_oftenThere_4 at hV
  have hP4 : ∀ (x2 : Int) (x3 : Int) (h : Hp), Go i_X12_oftenThere 4 [(0, .inr (.inr x0)), (1, .inl x1), (2, .inl x2), (3, .inl x3)] [] h (qI Q) → Go i_X12_oftenThere 4 [(0, .inr (.inr x0)), (1, .inl x1), (2, .inl x2), (3, .inl x3)] [] h (qI Q) := fun _ _ h z => z
  refine s_iload_n d_X12_oftenThere_4 rfl (ma 3 rfl) ?_
  refine s_aload_n d_X12_oftenThere_5 rfl (ma 0 rfl) ?_
  obtain ⟨o, hV⟩ := hV
  refine f_RX12_186g rfl d_X12_oftenThere_6 o ?_
  refine s_icmp_ge (tgt := 36) d_X12_oftenThere_9 (by decide) (fun c => ?_) (fun c => ?_)
  · have hV := hV.1 c
    refine s_iload_n d_X12_oftenThere_36 rfl (ma 2 rfl) ?_
    exact s_iret d_X12_oftenThere_37 rfl rfl ⟨_, rfl, hV⟩
  · have hV := hV.2 c
    refine s_iload_n d_X12_oftenThere_12 rfl (ma 2 rfl) ?_
    refine s_aload_n d_X12_oftenThere_13 rfl (ma 0 rfl) ?_
    obtain ⟨o, hV⟩ := hV
    refine f_RX12_63g rfl d_X12_oftenThere_14 o ?_
    refine s_iload_n d_X12_oftenThere_17 rfl (ma 3 rfl) ?_
    obtain ⟨o, hV⟩ := hV
    refine s_iald d_X12_oftenThere_18 o.1 o.2.1 o.2.2 ?_
    refine s_iload_n d_X12_oftenThere_19 rfl (ma 1 rfl) ?_
    refine s_icmp_ne (tgt := 27) d_X12_oftenThere_20 (by decide) (fun c => ?_) (fun c => ?_)
    · have hV := hV.1 c
      refine s_iconst d_X12_oftenThere_27 (okn rfl) ?_
      obtain ⟨o, hV⟩ := hV
      refine s_iadd d_X12_oftenThere_28 o ?_
      refine s_nmI (fun x2_1 ex2_1 => ?_)
      have hV := hV x2_1 ex2_1
      refine s_istore_n (lv' := [(2, .inl x2_1), (0, .inr (.inr x0)), (1, .inl x1), (3, .inl x3)]) d_X12_oftenThere_29 rfl (Nat.le_of_ble_eq_true rfl) rfl ?_
      obtain ⟨o, hV⟩ := hV
      refine s_iinc (lv' := [(3, .inl (x3 + 1)), (2, .inl x2_1), (0, .inr (.inr x0)), (1, .inl x1)]) d_X12_oftenThere_30 (ma 3 rfl) o (Nat.le_of_ble_eq_true rfl) rfl ?_
      refine s_goto (tgt := 4) d_X12_oftenThere_33 (by decide) ?_
      refine s_pick (lv' := [(0, .inr (.inr x0)), (1, .inl x1), (2, .inl x2_1), (3, .inl (x3 + 1))]) [2, 3, 1, 0] rfl ?_
      exact hP4 _ _ _ hV
    · have hV := hV.2 c
      refine s_iconst d_X12_oftenThere_23 (okn rfl) ?_
      refine s_goto (tgt := 28) d_X12_oftenThere_24 (by decide) ?_
      obtain ⟨o, hV⟩ := hV
      refine s_iadd d_X12_oftenThere_28 o ?_
      refine s_nmI (fun x2_2 ex2_2 => ?_)
      have hV := hV x2_2 ex2_2
      refine s_istore_n (lv' := [(2, .inl x2_2), (0, .inr (.inr x0)), (1, .inl x1), (3, .inl x3)]) d_X12_oftenThere_29 rfl (Nat.le_of_ble_eq_true rfl) rfl ?_
      obtain ⟨o, hV⟩ := hV
      refine s_iinc (lv' := [(3, .inl (x3 + 1)), (2, .inl x2_2), (0, .inr (.inr x0)), (1, .inl x1)]) d_X12_oftenThere_30 (ma 3 rfl) o (Nat.le_of_ble_eq_true rfl) rfl ?_
      refine s_goto (tgt := 4) d_X12_oftenThere_33 (by decide) ?_
      refine s_pick (lv' := [(0, .inr (.inr x0)), (1, .inl x1), (2, .inl x2_2), (3, .inl (x3 + 1))]) [2, 3, 1, 0] rfl ?_
      exact hP4 _ _ _ hV
def V_X12_oftenThere (x0 : Nat) (x1 : Int) (h : Hp) (Q : Int → Hp → Prop) : Prop :=
  Lp_X12_oftenThere_4 x0 x1 0 0 h Q
theorem G_X12_oftenThere {x0 : Nat} {x1 : Int} (h : Hp) (Q : Int → Hp → Prop) (hV : V_X12_oftenThere x0 x1 h Q) : C_X12_oftenThere x0 x1 h Q := by
  unfold V_X12_oftenThere at hV
  show Go i_X12_oftenThere 0 [(0, .inr (.inr x0)), (1, .inl x1)] [] h (qI Q)
  refine s_iconst d_X12_oftenThere_0 (okn rfl) ?_
  refine s_istore_n (lv' := [(2, .inl 0), (0, .inr (.inr x0)), (1, .inl x1)]) d_X12_oftenThere_1 rfl (Nat.le_of_ble_eq_true rfl) rfl ?_
  refine s_iconst d_X12_oftenThere_2 (okn rfl) ?_
  refine s_istore_n (lv' := [(3, .inl 0), (2, .inl 0), (0, .inr (.inr x0)), (1, .inl x1)]) d_X12_oftenThere_3 rfl (Nat.le_of_ble_eq_true rfl) rfl ?_
  refine s_pick (lv' := [(0, .inr (.inr x0)), (1, .inl x1), (2, .inl 0), (3, .inl 0)]) [2, 3, 1, 0] rfl ?_
  exact GLp_X12_oftenThere_4 _ _ _ _ _ _ hV

theorem d_X12_often_0 : decode i_X12_often.2.1 0 = .ok (.iload_n 1, 1) := by decide +kernel
theorem d_X12_often_1 : decode i_X12_often.2.1 1 = .ok (.iload_n 2, 1) := by decide +kernel
theorem d_X12_often_2 : decode i_X12_often.2.1 2 = .ok (.invokestatic 238, 3) := by decide +kernel
theorem d_X12_often_5 : decode i_X12_often.2.1 5 = .ok (.ifCond .eq 13, 3) := by decide +kernel
theorem d_X12_often_8 : decode i_X12_often.2.1 8 = .ok (.iload_n 3, 1) := by decide +kernel
theorem d_X12_often_9 : decode i_X12_often.2.1 9 = .ok (.iconst 0, 1) := by decide +kernel
theorem d_X12_often_10 : decode i_X12_often.2.1 10 = .ok (.bipush 9, 2) := by decide +kernel
theorem d_X12_often_12 : decode i_X12_often.2.1 12 = .ok (.invokestatic 90, 3) := by decide +kernel
theorem d_X12_often_15 : decode i_X12_often.2.1 15 = .ok (.ifCond .ne 6, 3) := by decide +kernel
theorem d_X12_often_18 : decode i_X12_often.2.1 18 = .ok (.ldc 94, 2) := by decide +kernel
theorem d_X12_often_20 : decode i_X12_often.2.1 20 = .ok (.ireturn, 1) := by decide +kernel
theorem d_X12_often_21 : decode i_X12_often.2.1 21 = .ok (.aload_n 0, 1) := by decide +kernel
theorem d_X12_often_22 : decode i_X12_often.2.1 22 = .ok (.iload_n 1, 1) := by decide +kernel
theorem d_X12_often_23 : decode i_X12_often.2.1 23 = .ok (.iload_n 2, 1) := by decide +kernel
theorem d_X12_often_24 : decode i_X12_often.2.1 24 = .ok (.invokevirtual 241, 3) := by decide +kernel
theorem d_X12_often_27 : decode i_X12_often.2.1 27 = .ok (.aload_n 0, 1) := by decide +kernel
theorem d_X12_often_28 : decode i_X12_often.2.1 28 = .ok (.iload_n 3, 1) := by decide +kernel
theorem d_X12_often_29 : decode i_X12_often.2.1 29 = .ok (.invokevirtual 245, 3) := by decide +kernel
theorem d_X12_often_32 : decode i_X12_often.2.1 32 = .ok (.ireturn, 1) := by decide +kernel
def V_X12_often (x0 : Nat) (x1 : Int) (x2 : Int) (x3 : Int) (h : Hp) (Q : Int → Hp → Prop) : Prop :=
  C_X12_isTried x1 x2 h (fun r2 h1 => ((r2 = 0 → (Q (-1000000002) h1)) ∧ (¬ r2 = 0 → (C_X12_is x3 0 9 h1 (fun r4 h3 => ((r4 ≠ 0 → (hK h3 x0 = 11 ∧ C_X12_readOn x0 x1 x2 h3 (fun h5 => (hK h5 x0 = 11 ∧ C_X12_oftenThere x0 x3 h5 (fun r7 h6 => (Q r7 h6)))))) ∧ (r4 = 0 → (Q (-1000000002) h3))))))))
theorem G_X12_often {x0 : Nat} {x1 : Int} {x2 : Int} {x3 : Int} (h : Hp) (Q : Int → Hp → Prop) (hV : V_X12_often x0 x1 x2 x3 h Q) : C_X12_often x0 x1 x2 x3 h Q := by
  unfold V_X12_often at hV
  show Go i_X12_often 0 [(0, .inr (.inr x0)), (1, .inl x1), (2, .inl x2), (3, .inl x3)] [] h (qI Q)
  refine s_iload_n d_X12_often_0 rfl (ma 1 rfl) ?_
  refine s_iload_n d_X12_often_1 rfl (ma 2 rfl) ?_
  refine v_RX12_238 rfl (Nat.le_of_ble_eq_true rfl) d_X12_often_2 (Nat.le_of_ble_eq_true rfl) hV (fun r2 h1 hV => ?_)
  refine s_if_eq (tgt := 18) d_X12_often_5 (by decide) (fun c => ?_) (fun c => ?_)
  · have hV := hV.1 c
    refine s_ldc (n := (-1000000002)) d_X12_often_18 k_RX12_94 (by decide) (okn rfl) ?_
    exact s_iret d_X12_often_20 rfl rfl ⟨_, rfl, hV⟩
  · have hV := hV.2 c
    refine s_iload_n d_X12_often_8 rfl (ma 3 rfl) ?_
    refine s_iconst d_X12_often_9 (okn rfl) ?_
    refine s_bipush d_X12_often_10 (by decide) (okn rfl) ?_
    refine v_RX12_90 rfl (Nat.le_of_ble_eq_true rfl) d_X12_often_12 (Nat.le_of_ble_eq_true rfl) hV (fun r4 h3 hV => ?_)
    refine s_if_ne (tgt := 21) d_X12_often_15 (by decide) (fun c => ?_) (fun c => ?_)
    · have hV := hV.1 c
      refine s_aload_n d_X12_often_21 rfl (ma 0 rfl) ?_
      refine s_iload_n d_X12_often_22 rfl (ma 1 rfl) ?_
      refine s_iload_n d_X12_often_23 rfl (ma 2 rfl) ?_
      obtain ⟨o, hV⟩ := hV
      refine v_RX12_241 rfl (Nat.le_of_ble_eq_true rfl) d_X12_often_24 o (Nat.le_of_ble_eq_true rfl) hV (fun h5 hV => ?_)
      refine s_aload_n d_X12_often_27 rfl (ma 0 rfl) ?_
      refine s_iload_n d_X12_often_28 rfl (ma 3 rfl) ?_
      obtain ⟨o, hV⟩ := hV
      refine v_RX12_245 rfl (Nat.le_of_ble_eq_true rfl) d_X12_often_29 o (Nat.le_of_ble_eq_true rfl) hV (fun r7 h6 hV => ?_)
      exact s_iret d_X12_often_32 rfl rfl ⟨_, rfl, hV⟩
    · have hV := hV.2 c
      refine s_ldc (n := (-1000000002)) d_X12_often_18 k_RX12_94 (by decide) (okn rfl) ?_
      exact s_iret d_X12_often_20 rfl rfl ⟨_, rfl, hV⟩

theorem d_X12_first_0 : decode i_X12_first.2.1 0 = .ok (.iload_n 1, 1) := by decide +kernel
theorem d_X12_first_1 : decode i_X12_first.2.1 1 = .ok (.iconst 0, 1) := by decide +kernel
theorem d_X12_first_2 : decode i_X12_first.2.1 2 = .ok (.iconst 5, 1) := by decide +kernel
theorem d_X12_first_3 : decode i_X12_first.2.1 3 = .ok (.invokestatic 90, 3) := by decide +kernel
theorem d_X12_first_6 : decode i_X12_first.2.1 6 = .ok (.ifCond .eq 13, 3) := by decide +kernel
theorem d_X12_first_9 : decode i_X12_first.2.1 9 = .ok (.iload_n 2, 1) := by decide +kernel
theorem d_X12_first_10 : decode i_X12_first.2.1 10 = .ok (.iconst 0, 1) := by decide +kernel
theorem d_X12_first_11 : decode i_X12_first.2.1 11 = .ok (.bipush 9, 2) := by decide +kernel
theorem d_X12_first_13 : decode i_X12_first.2.1 13 = .ok (.invokestatic 90, 3) := by decide +kernel
theorem d_X12_first_16 : decode i_X12_first.2.1 16 = .ok (.ifCond .ne 6, 3) := by decide +kernel
theorem d_X12_first_19 : decode i_X12_first.2.1 19 = .ok (.ldc 94, 2) := by decide +kernel
theorem d_X12_first_21 : decode i_X12_first.2.1 21 = .ok (.ireturn, 1) := by decide +kernel
theorem d_X12_first_22 : decode i_X12_first.2.1 22 = .ok (.aload_n 0, 1) := by decide +kernel
theorem d_X12_first_23 : decode i_X12_first.2.1 23 = .ok (.invokevirtual 205, 3) := by decide +kernel
theorem d_X12_first_26 : decode i_X12_first.2.1 26 = .ok (.iconst 0, 1) := by decide +kernel
theorem d_X12_first_27 : decode i_X12_first.2.1 27 = .ok (.istore_n 3, 1) := by decide +kernel
theorem d_X12_first_28 : decode i_X12_first.2.1 28 = .ok (.iload_n 3, 1) := by decide +kernel
theorem d_X12_first_29 : decode i_X12_first.2.1 29 = .ok (.bipush 8, 2) := by decide +kernel
theorem d_X12_first_31 : decode i_X12_first.2.1 31 = .ok (.if_icmp .gt 30, 3) := by decide +kernel
theorem d_X12_first_34 : decode i_X12_first.2.1 34 = .ok (.aload_n 0, 1) := by decide +kernel
theorem d_X12_first_35 : decode i_X12_first.2.1 35 = .ok (.iload_n 2, 1) := by decide +kernel
theorem d_X12_first_36 : decode i_X12_first.2.1 36 = .ok (.invokevirtual 245, 3) := by decide +kernel
theorem d_X12_first_39 : decode i_X12_first.2.1 39 = .ok (.ifCond .le 5, 3) := by decide +kernel
theorem d_X12_first_42 : decode i_X12_first.2.1 42 = .ok (.iload_n 3, 1) := by decide +kernel
theorem d_X12_first_43 : decode i_X12_first.2.1 43 = .ok (.ireturn, 1) := by decide +kernel
theorem d_X12_first_44 : decode i_X12_first.2.1 44 = .ok (.iload_n 3, 1) := by decide +kernel
theorem d_X12_first_45 : decode i_X12_first.2.1 45 = .ok (.bipush 8, 2) := by decide +kernel
theorem d_X12_first_47 : decode i_X12_first.2.1 47 = .ok (.if_icmp .ge 8, 3) := by decide +kernel
theorem d_X12_first_50 : decode i_X12_first.2.1 50 = .ok (.aload_n 0, 1) := by decide +kernel
theorem d_X12_first_51 : decode i_X12_first.2.1 51 = .ok (.iload_n 1, 1) := by decide +kernel
theorem d_X12_first_52 : decode i_X12_first.2.1 52 = .ok (.invokevirtual 208, 3) := by decide +kernel
theorem d_X12_first_55 : decode i_X12_first.2.1 55 = .ok (.iinc 3 1, 3) := by decide +kernel
theorem d_X12_first_58 : decode i_X12_first.2.1 58 = .ok (.goto (-30), 3) := by decide +kernel
theorem d_X12_first_61 : decode i_X12_first.2.1 61 = .ok (.iconst (-1), 1) := by decide +kernel
theorem d_X12_first_62 : decode i_X12_first.2.1 62 = .ok (.ireturn, 1) := by decide +kernel
def BLp_X12_first_28 (x0 : Nat) (x1 : Int) (x2 : Int) (P28 : Int → Hp → Prop) (x3 : Int) (h : Hp) (Q : Int → Hp → Prop) : Prop :=
  (8 < x3 → (Q (-1) h)) ∧ (¬ 8 < x3 → (hK h x0 = 11 ∧ C_X12_oftenThere x0 x2 h (fun r2 h1 => ((r2 ≤ 0 → ((8 ≤ x3 → (((-2147483648 : Int) ≤ x3 + 1 ∧ x3 + 1 ≤ (2147483647 : Int)) ∧ (P28 (x3 + 1) h1))) ∧ (¬ 8 ≤ x3 → (hK h1 x0 = 11 ∧ C_X12_reads x0 x1 h1 (fun h3 => (((-2147483648 : Int) ≤ x3 + 1 ∧ x3 + 1 ≤ (2147483647 : Int)) ∧ (P28 (x3 + 1) h3))))))) ∧ (¬ r2 ≤ 0 → (Q x3 h1))))))
def Lp_X12_first_28 (x0 : Nat) (x1 : Int) (x2 : Int) (x3 : Int) (h : Hp) (Q : Int → Hp → Prop) : Prop := ∀ P28 : Int → Hp → Prop, (∀ (x3 : Int) (h : Hp), BLp_X12_first_28 x0 x1 x2 P28 x3 h Q → P28 x3 h) → P28 x3 h
theorem Lp_X12_first_28_ind {x0 : Nat} {x1 : Int} {x2 : Int} {Q : Int → Hp → Prop} (I : Int → Hp → Prop) (μ : Int → Hp → Nat) (hs : ∀ (P28 : Int → Hp → Prop) (x3 : Int) (h : Hp), I x3 h → (∀ (x3' : Int) (h' : Hp), I x3' h' → μ x3' h' < μ x3 h → P28 x3' h') → BLp_X12_first_28 x0 x1 x2 P28 x3 h Q) : ∀ (x3 : Int) (h : Hp), I x3 h → Lp_X12_first_28 x0 x1 x2 x3 h Q := by
  intro x3 h hI P28 hP
  have key : ∀ (n : Nat) (x3 : Int) (h : Hp), I x3 h → μ x3 h < n → P28 x3 h := by
    intro n
    induction n with
    | zero => intro x3 h _ hl; exact absurd hl (Nat.not_lt_zero _)
    | succ n ih => intro x3 h hi hl; exact hP x3 h (hs P28 x3 h hi (fun x3 h' hi' hl' => ih x3 h' hi' (by omega)))
  exact key _ x3 h hI (Nat.lt_succ_self _)
theorem GLp_X12_first_28 (x0 : Nat) (x1 : Int) (x2 : Int) (x3 : Int) (h : Hp) (Q : Int → Hp → Prop) (hV : Lp_X12_first_28 x0 x1 x2 x3 h Q) : Go i_X12_first 28 [(0, .inr (.inr x0)), (1, .inl x1), (2, .inl x2), (3, .inl x3)] [] h (qI Q) := by
  refine hV (fun x3 h => Go i_X12_first 28 [(0, .inr (.inr x0)), (1, .inl x1), (2, .inl x2), (3, .inl x3)] [] h (qI Q)) (fun x3 h hV => ?_)
  unfold BLp_X12_first_28 at hV
  have hP28 : ∀ (x3 : Int) (h : Hp), Go i_X12_first 28 [(0, .inr (.inr x0)), (1, .inl x1), (2, .inl x2), (3, .inl x3)] [] h (qI Q) → Go i_X12_first 28 [(0, .inr (.inr x0)), (1, .inl x1), (2, .inl x2), (3, .inl x3)] [] h (qI Q) := fun _ h z => z
  refine s_iload_n d_X12_first_28 rfl (ma 3 rfl) ?_
  refine s_bipush d_X12_first_29 (by decide) (okn rfl) ?_
  refine s_icmp_gt (tgt := 61) d_X12_first_31 (by decide) (fun c => ?_) (fun c => ?_)
  · have hV := hV.1 c
    refine s_iconst d_X12_first_61 (okn rfl) ?_
    exact s_iret d_X12_first_62 rfl rfl ⟨_, rfl, hV⟩
  · have hV := hV.2 c
    refine s_aload_n d_X12_first_34 rfl (ma 0 rfl) ?_
    refine s_iload_n d_X12_first_35 rfl (ma 2 rfl) ?_
    obtain ⟨o, hV⟩ := hV
    refine v_RX12_245 rfl (Nat.le_of_ble_eq_true rfl) d_X12_first_36 o (Nat.le_of_ble_eq_true rfl) hV (fun r2 h1 hV => ?_)
    refine s_if_le (tgt := 44) d_X12_first_39 (by decide) (fun c => ?_) (fun c => ?_)
    · have hV := hV.1 c
      refine s_iload_n d_X12_first_44 rfl (ma 3 rfl) ?_
      refine s_bipush d_X12_first_45 (by decide) (okn rfl) ?_
      refine s_icmp_ge (tgt := 55) d_X12_first_47 (by decide) (fun c => ?_) (fun c => ?_)
      · have hV := hV.1 c
        obtain ⟨o, hV⟩ := hV
        refine s_iinc (lv' := [(3, .inl (x3 + 1)), (0, .inr (.inr x0)), (1, .inl x1), (2, .inl x2)]) d_X12_first_55 (ma 3 rfl) o (Nat.le_of_ble_eq_true rfl) rfl ?_
        refine s_goto (tgt := 28) d_X12_first_58 (by decide) ?_
        refine s_pick (lv' := [(0, .inr (.inr x0)), (1, .inl x1), (2, .inl x2), (3, .inl (x3 + 1))]) [1, 2, 3, 0] rfl ?_
        exact hP28 _ _ hV
      · have hV := hV.2 c
        refine s_aload_n d_X12_first_50 rfl (ma 0 rfl) ?_
        refine s_iload_n d_X12_first_51 rfl (ma 1 rfl) ?_
        obtain ⟨o, hV⟩ := hV
        refine v_RX12_208 rfl (Nat.le_of_ble_eq_true rfl) d_X12_first_52 o (Nat.le_of_ble_eq_true rfl) hV (fun h3 hV => ?_)
        obtain ⟨o, hV⟩ := hV
        refine s_iinc (lv' := [(3, .inl (x3 + 1)), (0, .inr (.inr x0)), (1, .inl x1), (2, .inl x2)]) d_X12_first_55 (ma 3 rfl) o (Nat.le_of_ble_eq_true rfl) rfl ?_
        refine s_goto (tgt := 28) d_X12_first_58 (by decide) ?_
        refine s_pick (lv' := [(0, .inr (.inr x0)), (1, .inl x1), (2, .inl x2), (3, .inl (x3 + 1))]) [1, 2, 3, 0] rfl ?_
        exact hP28 _ _ hV
    · have hV := hV.2 c
      refine s_iload_n d_X12_first_42 rfl (ma 3 rfl) ?_
      exact s_iret d_X12_first_43 rfl rfl ⟨_, rfl, hV⟩
def V_X12_first (x0 : Nat) (x1 : Int) (x2 : Int) (h : Hp) (Q : Int → Hp → Prop) : Prop :=
  C_X12_is x1 0 5 h (fun r2 h1 => ((r2 = 0 → (Q (-1000000002) h1)) ∧ (¬ r2 = 0 → (C_X12_is x2 0 9 h1 (fun r4 h3 => ((r4 ≠ 0 → (hK h3 x0 = 11 ∧ C_X12_begin x0  h3 (fun h5 => (Lp_X12_first_28 x0 x1 x2 0 h5 Q)))) ∧ (r4 = 0 → (Q (-1000000002) h3))))))))
theorem G_X12_first {x0 : Nat} {x1 : Int} {x2 : Int} (h : Hp) (Q : Int → Hp → Prop) (hV : V_X12_first x0 x1 x2 h Q) : C_X12_first x0 x1 x2 h Q := by
  unfold V_X12_first at hV
  show Go i_X12_first 0 [(0, .inr (.inr x0)), (1, .inl x1), (2, .inl x2)] [] h (qI Q)
  refine s_iload_n d_X12_first_0 rfl (ma 1 rfl) ?_
  refine s_iconst d_X12_first_1 (okn rfl) ?_
  refine s_iconst d_X12_first_2 (okn rfl) ?_
  refine v_RX12_90 rfl (Nat.le_of_ble_eq_true rfl) d_X12_first_3 (Nat.le_of_ble_eq_true rfl) hV (fun r2 h1 hV => ?_)
  refine s_if_eq (tgt := 19) d_X12_first_6 (by decide) (fun c => ?_) (fun c => ?_)
  · have hV := hV.1 c
    refine s_ldc (n := (-1000000002)) d_X12_first_19 k_RX12_94 (by decide) (okn rfl) ?_
    exact s_iret d_X12_first_21 rfl rfl ⟨_, rfl, hV⟩
  · have hV := hV.2 c
    refine s_iload_n d_X12_first_9 rfl (ma 2 rfl) ?_
    refine s_iconst d_X12_first_10 (okn rfl) ?_
    refine s_bipush d_X12_first_11 (by decide) (okn rfl) ?_
    refine v_RX12_90 rfl (Nat.le_of_ble_eq_true rfl) d_X12_first_13 (Nat.le_of_ble_eq_true rfl) hV (fun r4 h3 hV => ?_)
    refine s_if_ne (tgt := 22) d_X12_first_16 (by decide) (fun c => ?_) (fun c => ?_)
    · have hV := hV.1 c
      refine s_aload_n d_X12_first_22 rfl (ma 0 rfl) ?_
      obtain ⟨o, hV⟩ := hV
      refine v_RX12_205 rfl (Nat.le_of_ble_eq_true rfl) d_X12_first_23 o (Nat.le_of_ble_eq_true rfl) hV (fun h5 hV => ?_)
      refine s_iconst d_X12_first_26 (okn rfl) ?_
      refine s_istore_n (lv' := [(3, .inl 0), (0, .inr (.inr x0)), (1, .inl x1), (2, .inl x2)]) d_X12_first_27 rfl (Nat.le_of_ble_eq_true rfl) rfl ?_
      refine s_pick (lv' := [(0, .inr (.inr x0)), (1, .inl x1), (2, .inl x2), (3, .inl 0)]) [1, 2, 3, 0] rfl ?_
      exact GLp_X12_first_28 _ _ _ _ _ _ hV
    · have hV := hV.2 c
      refine s_ldc (n := (-1000000002)) d_X12_first_19 k_RX12_94 (by decide) (okn rfl) ?_
      exact s_iret d_X12_first_21 rfl rfl ⟨_, rfl, hV⟩

theorem d_X12_isPast_0 : decode i_X12_isPast.2.1 0 = .ok (.aload_n 0, 1) := by decide +kernel
theorem d_X12_isPast_1 : decode i_X12_isPast.2.1 1 = .ok (.getfield 75, 3) := by decide +kernel
theorem d_X12_isPast_4 : decode i_X12_isPast.2.1 4 = .ok (.iload_n 1, 1) := by decide +kernel
theorem d_X12_isPast_5 : decode i_X12_isPast.2.1 5 = .ok (.iaload, 1) := by decide +kernel
theorem d_X12_isPast_6 : decode i_X12_isPast.2.1 6 = .ok (.aload_n 0, 1) := by decide +kernel
theorem d_X12_isPast_7 : decode i_X12_isPast.2.1 7 = .ok (.getfield 186, 3) := by decide +kernel
theorem d_X12_isPast_10 : decode i_X12_isPast.2.1 10 = .ok (.if_icmp .ne 7, 3) := by decide +kernel
theorem d_X12_isPast_13 : decode i_X12_isPast.2.1 13 = .ok (.iconst 1, 1) := by decide +kernel
theorem d_X12_isPast_14 : decode i_X12_isPast.2.1 14 = .ok (.goto 4, 3) := by decide +kernel
theorem d_X12_isPast_17 : decode i_X12_isPast.2.1 17 = .ok (.iconst 0, 1) := by decide +kernel
theorem d_X12_isPast_18 : decode i_X12_isPast.2.1 18 = .ok (.istore_n 2, 1) := by decide +kernel
theorem d_X12_isPast_19 : decode i_X12_isPast.2.1 19 = .ok (.iconst 0, 1) := by decide +kernel
theorem d_X12_isPast_20 : decode i_X12_isPast.2.1 20 = .ok (.istore_n 3, 1) := by decide +kernel
theorem d_X12_isPast_21 : decode i_X12_isPast.2.1 21 = .ok (.iload_n 3, 1) := by decide +kernel
theorem d_X12_isPast_22 : decode i_X12_isPast.2.1 22 = .ok (.aload_n 0, 1) := by decide +kernel
theorem d_X12_isPast_23 : decode i_X12_isPast.2.1 23 = .ok (.getfield 186, 3) := by decide +kernel
theorem d_X12_isPast_26 : decode i_X12_isPast.2.1 26 = .ok (.if_icmp .ge 39, 3) := by decide +kernel
theorem d_X12_isPast_29 : decode i_X12_isPast.2.1 29 = .ok (.iload_n 2, 1) := by decide +kernel
theorem d_X12_isPast_30 : decode i_X12_isPast.2.1 30 = .ok (.ifCond .eq 35, 3) := by decide +kernel
theorem d_X12_isPast_33 : decode i_X12_isPast.2.1 33 = .ok (.aload_n 0, 1) := by decide +kernel
theorem d_X12_isPast_34 : decode i_X12_isPast.2.1 34 = .ok (.getfield 72, 3) := by decide +kernel
theorem d_X12_isPast_37 : decode i_X12_isPast.2.1 37 = .ok (.bipush 60, 2) := by decide +kernel
theorem d_X12_isPast_39 : decode i_X12_isPast.2.1 39 = .ok (.iload_n 1, 1) := by decide +kernel
theorem d_X12_isPast_40 : decode i_X12_isPast.2.1 40 = .ok (.imul, 1) := by decide +kernel
theorem d_X12_isPast_41 : decode i_X12_isPast.2.1 41 = .ok (.iload_n 3, 1) := by decide +kernel
theorem d_X12_isPast_42 : decode i_X12_isPast.2.1 42 = .ok (.iadd, 1) := by decide +kernel
theorem d_X12_isPast_43 : decode i_X12_isPast.2.1 43 = .ok (.iaload, 1) := by decide +kernel
theorem d_X12_isPast_44 : decode i_X12_isPast.2.1 44 = .ok (.aload_n 0, 1) := by decide +kernel
theorem d_X12_isPast_45 : decode i_X12_isPast.2.1 45 = .ok (.getfield 63, 3) := by decide +kernel
theorem d_X12_isPast_48 : decode i_X12_isPast.2.1 48 = .ok (.iload_n 3, 1) := by decide +kernel
theorem d_X12_isPast_49 : decode i_X12_isPast.2.1 49 = .ok (.iaload, 1) := by decide +kernel
theorem d_X12_isPast_50 : decode i_X12_isPast.2.1 50 = .ok (.if_icmp .ne 7, 3) := by decide +kernel
theorem d_X12_isPast_53 : decode i_X12_isPast.2.1 53 = .ok (.iconst 1, 1) := by decide +kernel
theorem d_X12_isPast_54 : decode i_X12_isPast.2.1 54 = .ok (.goto 4, 3) := by decide +kernel
theorem d_X12_isPast_57 : decode i_X12_isPast.2.1 57 = .ok (.iconst 0, 1) := by decide +kernel
theorem d_X12_isPast_58 : decode i_X12_isPast.2.1 58 = .ok (.istore_n 2, 1) := by decide +kernel
theorem d_X12_isPast_59 : decode i_X12_isPast.2.1 59 = .ok (.iinc 3 1, 3) := by decide +kernel
theorem d_X12_isPast_62 : decode i_X12_isPast.2.1 62 = .ok (.goto (-41), 3) := by decide +kernel
theorem d_X12_isPast_65 : decode i_X12_isPast.2.1 65 = .ok (.iload_n 2, 1) := by decide +kernel
theorem d_X12_isPast_66 : decode i_X12_isPast.2.1 66 = .ok (.ireturn, 1) := by decide +kernel
def BLp_X12_isPast_21 (x0 : Nat) (x1 : Int) (P21 : Int → Int → Hp → Prop) (x2 : Int) (x3 : Int) (h : Hp) (Q : Int → Hp → Prop) : Prop :=
  hK h x0 = 11 ∧ ((hI h x0 29 ≤ x3 → (((x2 : Int) = 0 ∨ (x2 : Int) = 1) ∧ Q x2 h)) ∧ (¬ hI h x0 29 ≤ x3 → ((x2 = 0 → (((x2 : Int) = 0 ∨ (x2 : Int) = 1) ∧ Q x2 h)) ∧ (¬ x2 = 0 → (hK h x0 = 11 ∧ (((-2147483648 : Int) ≤ 60 * x1 ∧ 60 * x1 ≤ (2147483647 : Int)) ∧ (((-2147483648 : Int) ≤ (60 * x1) + x3 ∧ (60 * x1) + x3 ≤ (2147483647 : Int)) ∧ ((hK h (hR h x0 34) = 12 ∧ (0 : Int) ≤ (60 * x1) + x3 ∧ (60 * x1) + x3 < hL h (hR h x0 34)) ∧ (hK h x0 = 11 ∧ ((hK h (hR h x0 28) = 12 ∧ (0 : Int) ≤ x3 ∧ x3 < hL h (hR h x0 28)) ∧ ((hI h (hR h x0 34) ((60 * x1) + x3) ≠ hI h (hR h x0 28) x3 → (((-2147483648 : Int) ≤ x3 + 1 ∧ x3 + 1 ≤ (2147483647 : Int)) ∧ (P21 0 (x3 + 1) h))) ∧ (hI h (hR h x0 34) ((60 * x1) + x3) = hI h (hR h x0 28) x3 → (((-2147483648 : Int) ≤ x3 + 1 ∧ x3 + 1 ≤ (2147483647 : Int)) ∧ (P21 1 (x3 + 1) h))))))))))))))
def Lp_X12_isPast_21 (x0 : Nat) (x1 : Int) (x2 : Int) (x3 : Int) (h : Hp) (Q : Int → Hp → Prop) : Prop := ∀ P21 : Int → Int → Hp → Prop, (∀ (x2 : Int) (x3 : Int) (h : Hp), BLp_X12_isPast_21 x0 x1 P21 x2 x3 h Q → P21 x2 x3 h) → P21 x2 x3 h
theorem Lp_X12_isPast_21_ind {x0 : Nat} {x1 : Int} {Q : Int → Hp → Prop} (I : Int → Int → Hp → Prop) (μ : Int → Int → Hp → Nat) (hs : ∀ (P21 : Int → Int → Hp → Prop) (x2 : Int) (x3 : Int) (h : Hp), I x2 x3 h → (∀ (x2' : Int) (x3' : Int) (h' : Hp), I x2' x3' h' → μ x2' x3' h' < μ x2 x3 h → P21 x2' x3' h') → BLp_X12_isPast_21 x0 x1 P21 x2 x3 h Q) : ∀ (x2 : Int) (x3 : Int) (h : Hp), I x2 x3 h → Lp_X12_isPast_21 x0 x1 x2 x3 h Q := by
  intro x2 x3 h hI P21 hP
  have key : ∀ (n : Nat) (x2 : Int) (x3 : Int) (h : Hp), I x2 x3 h → μ x2 x3 h < n → P21 x2 x3 h := by
    intro n
    induction n with
    | zero => intro x2 x3 h _ hl; exact absurd hl (Nat.not_lt_zero _)
    | succ n ih => intro x2 x3 h hi hl; exact hP x2 x3 h (hs P21 x2 x3 h hi (fun x2 x3 h' hi' hl' => ih x2 x3 h' hi' (by omega)))
  exact key _ x2 x3 h hI (Nat.lt_succ_self _)
theorem GLp_X12_isPast_21 (x0 : Nat) (x1 : Int) (x2 : Int) (x3 : Int) (h : Hp) (Q : Int → Hp → Prop) (hV : Lp_X12_isPast_21 x0 x1 x2 x3 h Q) : Go i_X12_isPast 21 [(0, .inr (.inr x0)), (1, .inl x1), (2, .inl x2), (3, .inl x3)] [] h (qI Q) := by
  refine hV (fun x2 x3 h => Go i_X12_isPast 21 [(0, .inr (.inr x0)), (1, .inl x1), (2, .inl x2), (3, .inl x3)] [] h (qI Q)) (fun x2 x3 h hV => ?_)
  unfold BLp_X12_isPast_21 at hV
  have hP21 : ∀ (x2 : Int) (x3 : Int) (h : Hp), Go i_X12_isPast 21 [(0, .inr (.inr x0)), (1, .inl x1), (2, .inl x2), (3, .inl x3)] [] h (qI Q) → Go i_X12_isPast 21 [(0, .inr (.inr x0)), (1, .inl x1), (2, .inl x2), (3, .inl x3)] [] h (qI Q) := fun _ _ h z => z
  refine s_iload_n d_X12_isPast_21 rfl (ma 3 rfl) ?_
  refine s_aload_n d_X12_isPast_22 rfl (ma 0 rfl) ?_
  obtain ⟨o, hV⟩ := hV
  refine f_RX12_186g rfl d_X12_isPast_23 o ?_
  refine s_icmp_ge (tgt := 65) d_X12_isPast_26 (by decide) (fun c => ?_) (fun c => ?_)
  · have hV := hV.1 c
    refine s_iload_n d_X12_isPast_65 rfl (ma 2 rfl) ?_
    exact s_iret d_X12_isPast_66 rfl (nar_z hV.1) ⟨_, rfl, hV.2⟩
  · have hV := hV.2 c
    refine s_iload_n d_X12_isPast_29 rfl (ma 2 rfl) ?_
    refine s_if_eq (tgt := 65) d_X12_isPast_30 (by decide) (fun c => ?_) (fun c => ?_)
    · have hV := hV.1 c
      refine s_iload_n d_X12_isPast_65 rfl (ma 2 rfl) ?_
      exact s_iret d_X12_isPast_66 rfl (nar_z hV.1) ⟨_, rfl, hV.2⟩
    · have hV := hV.2 c
      refine s_aload_n d_X12_isPast_33 rfl (ma 0 rfl) ?_
      obtain ⟨o, hV⟩ := hV
      refine f_RX12_72g rfl d_X12_isPast_34 o ?_
      refine s_bipush d_X12_isPast_37 (by decide) (okn rfl) ?_
      refine s_iload_n d_X12_isPast_39 rfl (ma 1 rfl) ?_
      obtain ⟨o, hV⟩ := hV
      refine s_imul d_X12_isPast_40 o ?_
      refine s_iload_n d_X12_isPast_41 rfl (ma 3 rfl) ?_
      obtain ⟨o, hV⟩ := hV
      refine s_iadd d_X12_isPast_42 o ?_
      obtain ⟨o, hV⟩ := hV
      refine s_iald d_X12_isPast_43 o.1 o.2.1 o.2.2 ?_
      refine s_aload_n d_X12_isPast_44 rfl (ma 0 rfl) ?_
      obtain ⟨o, hV⟩ := hV
      refine f_RX12_63g rfl d_X12_isPast_45 o ?_
      refine s_iload_n d_X12_isPast_48 rfl (ma 3 rfl) ?_
      obtain ⟨o, hV⟩ := hV
      refine s_iald d_X12_isPast_49 o.1 o.2.1 o.2.2 ?_
      refine s_icmp_ne (tgt := 57) d_X12_isPast_50 (by decide) (fun c => ?_) (fun c => ?_)
      · have hV := hV.1 c
        refine s_iconst d_X12_isPast_57 (okn rfl) ?_
        refine s_istore_n (lv' := [(2, .inl 0), (0, .inr (.inr x0)), (1, .inl x1), (3, .inl x3)]) d_X12_isPast_58 rfl (Nat.le_of_ble_eq_true rfl) rfl ?_
        obtain ⟨o, hV⟩ := hV
        refine s_iinc (lv' := [(3, .inl (x3 + 1)), (2, .inl 0), (0, .inr (.inr x0)), (1, .inl x1)]) d_X12_isPast_59 (ma 3 rfl) o (Nat.le_of_ble_eq_true rfl) rfl ?_
        refine s_goto (tgt := 21) d_X12_isPast_62 (by decide) ?_
        refine s_pick (lv' := [(0, .inr (.inr x0)), (1, .inl x1), (2, .inl 0), (3, .inl (x3 + 1))]) [2, 3, 1, 0] rfl ?_
        exact hP21 _ _ _ hV
      · have hV := hV.2 c
        refine s_iconst d_X12_isPast_53 (okn rfl) ?_
        refine s_goto (tgt := 58) d_X12_isPast_54 (by decide) ?_
        refine s_istore_n (lv' := [(2, .inl 1), (0, .inr (.inr x0)), (1, .inl x1), (3, .inl x3)]) d_X12_isPast_58 rfl (Nat.le_of_ble_eq_true rfl) rfl ?_
        obtain ⟨o, hV⟩ := hV
        refine s_iinc (lv' := [(3, .inl (x3 + 1)), (2, .inl 1), (0, .inr (.inr x0)), (1, .inl x1)]) d_X12_isPast_59 (ma 3 rfl) o (Nat.le_of_ble_eq_true rfl) rfl ?_
        refine s_goto (tgt := 21) d_X12_isPast_62 (by decide) ?_
        refine s_pick (lv' := [(0, .inr (.inr x0)), (1, .inl x1), (2, .inl 1), (3, .inl (x3 + 1))]) [2, 3, 1, 0] rfl ?_
        exact hP21 _ _ _ hV
def V_X12_isPast (x0 : Nat) (x1 : Int) (h : Hp) (Q : Int → Hp → Prop) : Prop :=
  hK h x0 = 11 ∧ ((hK h (hR h x0 35) = 12 ∧ (0 : Int) ≤ x1 ∧ x1 < hL h (hR h x0 35)) ∧ (hK h x0 = 11 ∧ ((hI h (hR h x0 35) x1 ≠ hI h x0 29 → (Lp_X12_isPast_21 x0 x1 0 0 h Q)) ∧ (hI h (hR h x0 35) x1 = hI h x0 29 → (Lp_X12_isPast_21 x0 x1 1 0 h Q)))))
theorem G_X12_isPast {x0 : Nat} {x1 : Int} (h : Hp) (Q : Int → Hp → Prop) (hV : V_X12_isPast x0 x1 h Q) : C_X12_isPast x0 x1 h Q := by
  unfold V_X12_isPast at hV
  show Go i_X12_isPast 0 [(0, .inr (.inr x0)), (1, .inl x1)] [] h (qI Q)
  refine s_aload_n d_X12_isPast_0 rfl (ma 0 rfl) ?_
  obtain ⟨o, hV⟩ := hV
  refine f_RX12_75g rfl d_X12_isPast_1 o ?_
  refine s_iload_n d_X12_isPast_4 rfl (ma 1 rfl) ?_
  obtain ⟨o, hV⟩ := hV
  refine s_iald d_X12_isPast_5 o.1 o.2.1 o.2.2 ?_
  refine s_aload_n d_X12_isPast_6 rfl (ma 0 rfl) ?_
  obtain ⟨o, hV⟩ := hV
  refine f_RX12_186g rfl d_X12_isPast_7 o ?_
  refine s_icmp_ne (tgt := 17) d_X12_isPast_10 (by decide) (fun c => ?_) (fun c => ?_)
  · have hV := hV.1 c
    refine s_iconst d_X12_isPast_17 (okn rfl) ?_
    refine s_istore_n (lv' := [(2, .inl 0), (0, .inr (.inr x0)), (1, .inl x1)]) d_X12_isPast_18 rfl (Nat.le_of_ble_eq_true rfl) rfl ?_
    refine s_iconst d_X12_isPast_19 (okn rfl) ?_
    refine s_istore_n (lv' := [(3, .inl 0), (2, .inl 0), (0, .inr (.inr x0)), (1, .inl x1)]) d_X12_isPast_20 rfl (Nat.le_of_ble_eq_true rfl) rfl ?_
    refine s_pick (lv' := [(0, .inr (.inr x0)), (1, .inl x1), (2, .inl 0), (3, .inl 0)]) [2, 3, 1, 0] rfl ?_
    exact GLp_X12_isPast_21 _ _ _ _ _ _ hV
  · have hV := hV.2 c
    refine s_iconst d_X12_isPast_13 (okn rfl) ?_
    refine s_goto (tgt := 18) d_X12_isPast_14 (by decide) ?_
    refine s_istore_n (lv' := [(2, .inl 1), (0, .inr (.inr x0)), (1, .inl x1)]) d_X12_isPast_18 rfl (Nat.le_of_ble_eq_true rfl) rfl ?_
    refine s_iconst d_X12_isPast_19 (okn rfl) ?_
    refine s_istore_n (lv' := [(3, .inl 0), (2, .inl 1), (0, .inr (.inr x0)), (1, .inl x1)]) d_X12_isPast_20 rfl (Nat.le_of_ble_eq_true rfl) rfl ?_
    refine s_pick (lv' := [(0, .inr (.inr x0)), (1, .inl x1), (2, .inl 1), (3, .inl 0)]) [2, 3, 1, 0] rfl ?_
    exact GLp_X12_isPast_21 _ _ _ _ _ _ hV

theorem d_X12_earlier_0 : decode i_X12_earlier.2.1 0 = .ok (.iconst 0, 1) := by decide +kernel
theorem d_X12_earlier_1 : decode i_X12_earlier.2.1 1 = .ok (.istore_n 2, 1) := by decide +kernel
theorem d_X12_earlier_2 : decode i_X12_earlier.2.1 2 = .ok (.iload_n 2, 1) := by decide +kernel
theorem d_X12_earlier_3 : decode i_X12_earlier.2.1 3 = .ok (.iload_n 1, 1) := by decide +kernel
theorem d_X12_earlier_4 : decode i_X12_earlier.2.1 4 = .ok (.if_icmp .ge 19, 3) := by decide +kernel
theorem d_X12_earlier_7 : decode i_X12_earlier.2.1 7 = .ok (.aload_n 0, 1) := by decide +kernel
theorem d_X12_earlier_8 : decode i_X12_earlier.2.1 8 = .ok (.iload_n 2, 1) := by decide +kernel
theorem d_X12_earlier_9 : decode i_X12_earlier.2.1 9 = .ok (.invokevirtual 248, 3) := by decide +kernel
theorem d_X12_earlier_12 : decode i_X12_earlier.2.1 12 = .ok (.ifCond .eq 5, 3) := by decide +kernel
theorem d_X12_earlier_15 : decode i_X12_earlier.2.1 15 = .ok (.iload_n 2, 1) := by decide +kernel
theorem d_X12_earlier_16 : decode i_X12_earlier.2.1 16 = .ok (.ireturn, 1) := by decide +kernel
theorem d_X12_earlier_17 : decode i_X12_earlier.2.1 17 = .ok (.iinc 2 1, 3) := by decide +kernel
theorem d_X12_earlier_20 : decode i_X12_earlier.2.1 20 = .ok (.goto (-18), 3) := by decide +kernel
theorem d_X12_earlier_23 : decode i_X12_earlier.2.1 23 = .ok (.iconst (-1), 1) := by decide +kernel
theorem d_X12_earlier_24 : decode i_X12_earlier.2.1 24 = .ok (.ireturn, 1) := by decide +kernel
def BLp_X12_earlier_2 (x0 : Nat) (x1 : Int) (P2 : Int → Hp → Prop) (x2 : Int) (h : Hp) (Q : Int → Hp → Prop) : Prop :=
  (x1 ≤ x2 → (Q (-1) h)) ∧ (¬ x1 ≤ x2 → (hK h x0 = 11 ∧ C_X12_isPast x0 x2 h (fun r2 h1 => ((r2 = 0 → (((-2147483648 : Int) ≤ x2 + 1 ∧ x2 + 1 ≤ (2147483647 : Int)) ∧ (P2 (x2 + 1) h1))) ∧ (¬ r2 = 0 → (Q x2 h1))))))
def Lp_X12_earlier_2 (x0 : Nat) (x1 : Int) (x2 : Int) (h : Hp) (Q : Int → Hp → Prop) : Prop := ∀ P2 : Int → Hp → Prop, (∀ (x2 : Int) (h : Hp), BLp_X12_earlier_2 x0 x1 P2 x2 h Q → P2 x2 h) → P2 x2 h
theorem Lp_X12_earlier_2_ind {x0 : Nat} {x1 : Int} {Q : Int → Hp → Prop} (I : Int → Hp → Prop) (μ : Int → Hp → Nat) (hs : ∀ (P2 : Int → Hp → Prop) (x2 : Int) (h : Hp), I x2 h → (∀ (x2' : Int) (h' : Hp), I x2' h' → μ x2' h' < μ x2 h → P2 x2' h') → BLp_X12_earlier_2 x0 x1 P2 x2 h Q) : ∀ (x2 : Int) (h : Hp), I x2 h → Lp_X12_earlier_2 x0 x1 x2 h Q := by
  intro x2 h hI P2 hP
  have key : ∀ (n : Nat) (x2 : Int) (h : Hp), I x2 h → μ x2 h < n → P2 x2 h := by
    intro n
    induction n with
    | zero => intro x2 h _ hl; exact absurd hl (Nat.not_lt_zero _)
    | succ n ih => intro x2 h hi hl; exact hP x2 h (hs P2 x2 h hi (fun x2 h' hi' hl' => ih x2 h' hi' (by omega)))
  exact key _ x2 h hI (Nat.lt_succ_self _)
theorem GLp_X12_earlier_2 (x0 : Nat) (x1 : Int) (x2 : Int) (h : Hp) (Q : Int → Hp → Prop) (hV : Lp_X12_earlier_2 x0 x1 x2 h Q) : Go i_X12_earlier 2 [(0, .inr (.inr x0)), (1, .inl x1), (2, .inl x2)] [] h (qI Q) := by
  refine hV (fun x2 h => Go i_X12_earlier 2 [(0, .inr (.inr x0)), (1, .inl x1), (2, .inl x2)] [] h (qI Q)) (fun x2 h hV => ?_)
  unfold BLp_X12_earlier_2 at hV
  have hP2 : ∀ (x2 : Int) (h : Hp), Go i_X12_earlier 2 [(0, .inr (.inr x0)), (1, .inl x1), (2, .inl x2)] [] h (qI Q) → Go i_X12_earlier 2 [(0, .inr (.inr x0)), (1, .inl x1), (2, .inl x2)] [] h (qI Q) := fun _ h z => z
  refine s_iload_n d_X12_earlier_2 rfl (ma 2 rfl) ?_
  refine s_iload_n d_X12_earlier_3 rfl (ma 1 rfl) ?_
  refine s_icmp_ge (tgt := 23) d_X12_earlier_4 (by decide) (fun c => ?_) (fun c => ?_)
  · have hV := hV.1 c
    refine s_iconst d_X12_earlier_23 (okn rfl) ?_
    exact s_iret d_X12_earlier_24 rfl rfl ⟨_, rfl, hV⟩
  · have hV := hV.2 c
    refine s_aload_n d_X12_earlier_7 rfl (ma 0 rfl) ?_
    refine s_iload_n d_X12_earlier_8 rfl (ma 2 rfl) ?_
    obtain ⟨o, hV⟩ := hV
    refine v_RX12_248 rfl (Nat.le_of_ble_eq_true rfl) d_X12_earlier_9 o (Nat.le_of_ble_eq_true rfl) hV (fun r2 h1 hV => ?_)
    refine s_if_eq (tgt := 17) d_X12_earlier_12 (by decide) (fun c => ?_) (fun c => ?_)
    · have hV := hV.1 c
      obtain ⟨o, hV⟩ := hV
      refine s_iinc (lv' := [(2, .inl (x2 + 1)), (0, .inr (.inr x0)), (1, .inl x1)]) d_X12_earlier_17 (ma 2 rfl) o (Nat.le_of_ble_eq_true rfl) rfl ?_
      refine s_goto (tgt := 2) d_X12_earlier_20 (by decide) ?_
      refine s_pick (lv' := [(0, .inr (.inr x0)), (1, .inl x1), (2, .inl (x2 + 1))]) [1, 2, 0] rfl ?_
      exact hP2 _ _ hV
    · have hV := hV.2 c
      refine s_iload_n d_X12_earlier_15 rfl (ma 2 rfl) ?_
      exact s_iret d_X12_earlier_16 rfl rfl ⟨_, rfl, hV⟩
def V_X12_earlier (x0 : Nat) (x1 : Int) (h : Hp) (Q : Int → Hp → Prop) : Prop :=
  Lp_X12_earlier_2 x0 x1 0 h Q
theorem G_X12_earlier {x0 : Nat} {x1 : Int} (h : Hp) (Q : Int → Hp → Prop) (hV : V_X12_earlier x0 x1 h Q) : C_X12_earlier x0 x1 h Q := by
  unfold V_X12_earlier at hV
  show Go i_X12_earlier 0 [(0, .inr (.inr x0)), (1, .inl x1)] [] h (qI Q)
  refine s_iconst d_X12_earlier_0 (okn rfl) ?_
  refine s_istore_n (lv' := [(2, .inl 0), (0, .inr (.inr x0)), (1, .inl x1)]) d_X12_earlier_1 rfl (Nat.le_of_ble_eq_true rfl) rfl ?_
  refine s_pick (lv' := [(0, .inr (.inr x0)), (1, .inl x1), (2, .inl 0)]) [1, 2, 0] rfl ?_
  exact GLp_X12_earlier_2 _ _ _ _ _ hV

theorem d_X12_again_0 : decode i_X12_again.2.1 0 = .ok (.iload_n 1, 1) := by decide +kernel
theorem d_X12_again_1 : decode i_X12_again.2.1 1 = .ok (.iconst 0, 1) := by decide +kernel
theorem d_X12_again_2 : decode i_X12_again.2.1 2 = .ok (.iconst 1, 1) := by decide +kernel
theorem d_X12_again_3 : decode i_X12_again.2.1 3 = .ok (.invokestatic 90, 3) := by decide +kernel
theorem d_X12_again_6 : decode i_X12_again.2.1 6 = .ok (.ifCond .ne 6, 3) := by decide +kernel
theorem d_X12_again_9 : decode i_X12_again.2.1 9 = .ok (.ldc 94, 2) := by decide +kernel
theorem d_X12_again_11 : decode i_X12_again.2.1 11 = .ok (.ireturn, 1) := by decide +kernel
theorem d_X12_again_12 : decode i_X12_again.2.1 12 = .ok (.aload_n 0, 1) := by decide +kernel
theorem d_X12_again_13 : decode i_X12_again.2.1 13 = .ok (.invokevirtual 205, 3) := by decide +kernel
theorem d_X12_again_16 : decode i_X12_again.2.1 16 = .ok (.iconst 0, 1) := by decide +kernel
theorem d_X12_again_17 : decode i_X12_again.2.1 17 = .ok (.istore_n 2, 1) := by decide +kernel
theorem d_X12_again_18 : decode i_X12_again.2.1 18 = .ok (.iload_n 2, 1) := by decide +kernel
theorem d_X12_again_19 : decode i_X12_again.2.1 19 = .ok (.bipush 60, 2) := by decide +kernel
theorem d_X12_again_21 : decode i_X12_again.2.1 21 = .ok (.if_icmp .gt 65, 3) := by decide +kernel
theorem d_X12_again_24 : decode i_X12_again.2.1 24 = .ok (.aload_n 0, 1) := by decide +kernel
theorem d_X12_again_25 : decode i_X12_again.2.1 25 = .ok (.iload_n 2, 1) := by decide +kernel
theorem d_X12_again_26 : decode i_X12_again.2.1 26 = .ok (.invokevirtual 251, 3) := by decide +kernel
theorem d_X12_again_29 : decode i_X12_again.2.1 29 = .ok (.istore_n 3, 1) := by decide +kernel
theorem d_X12_again_30 : decode i_X12_again.2.1 30 = .ok (.iload_n 3, 1) := by decide +kernel
theorem d_X12_again_31 : decode i_X12_again.2.1 31 = .ok (.iconst (-1), 1) := by decide +kernel
theorem d_X12_again_32 : decode i_X12_again.2.1 32 = .ok (.if_icmp .eq 13, 3) := by decide +kernel
theorem d_X12_again_35 : decode i_X12_again.2.1 35 = .ok (.iload_n 1, 1) := by decide +kernel
theorem d_X12_again_36 : decode i_X12_again.2.1 36 = .ok (.ifCond .ne 7, 3) := by decide +kernel
theorem d_X12_again_39 : decode i_X12_again.2.1 39 = .ok (.iload_n 2, 1) := by decide +kernel
theorem d_X12_again_40 : decode i_X12_again.2.1 40 = .ok (.goto 4, 3) := by decide +kernel
theorem d_X12_again_43 : decode i_X12_again.2.1 43 = .ok (.iload_n 3, 1) := by decide +kernel
theorem d_X12_again_44 : decode i_X12_again.2.1 44 = .ok (.ireturn, 1) := by decide +kernel
theorem d_X12_again_45 : decode i_X12_again.2.1 45 = .ok (.aload_n 0, 1) := by decide +kernel
theorem d_X12_again_46 : decode i_X12_again.2.1 46 = .ok (.getfield 75, 3) := by decide +kernel
theorem d_X12_again_49 : decode i_X12_again.2.1 49 = .ok (.iload_n 2, 1) := by decide +kernel
theorem d_X12_again_50 : decode i_X12_again.2.1 50 = .ok (.aload_n 0, 1) := by decide +kernel
theorem d_X12_again_51 : decode i_X12_again.2.1 51 = .ok (.getfield 186, 3) := by decide +kernel
theorem d_X12_again_54 : decode i_X12_again.2.1 54 = .ok (.iastore, 1) := by decide +kernel
theorem d_X12_again_55 : decode i_X12_again.2.1 55 = .ok (.aload_n 0, 1) := by decide +kernel
theorem d_X12_again_56 : decode i_X12_again.2.1 56 = .ok (.getfield 63, 3) := by decide +kernel
theorem d_X12_again_59 : decode i_X12_again.2.1 59 = .ok (.iconst 0, 1) := by decide +kernel
theorem d_X12_again_60 : decode i_X12_again.2.1 60 = .ok (.aload_n 0, 1) := by decide +kernel
theorem d_X12_again_61 : decode i_X12_again.2.1 61 = .ok (.getfield 72, 3) := by decide +kernel
theorem d_X12_again_64 : decode i_X12_again.2.1 64 = .ok (.bipush 60, 2) := by decide +kernel
theorem d_X12_again_66 : decode i_X12_again.2.1 66 = .ok (.iload_n 2, 1) := by decide +kernel
theorem d_X12_again_67 : decode i_X12_again.2.1 67 = .ok (.imul, 1) := by decide +kernel
theorem d_X12_again_68 : decode i_X12_again.2.1 68 = .ok (.aload_n 0, 1) := by decide +kernel
theorem d_X12_again_69 : decode i_X12_again.2.1 69 = .ok (.getfield 186, 3) := by decide +kernel
theorem d_X12_again_72 : decode i_X12_again.2.1 72 = .ok (.invokestatic 136, 3) := by decide +kernel
theorem d_X12_again_75 : decode i_X12_again.2.1 75 = .ok (.aload_n 0, 1) := by decide +kernel
theorem d_X12_again_76 : decode i_X12_again.2.1 76 = .ok (.iconst 3, 1) := by decide +kernel
theorem d_X12_again_77 : decode i_X12_again.2.1 77 = .ok (.invokevirtual 208, 3) := by decide +kernel
theorem d_X12_again_80 : decode i_X12_again.2.1 80 = .ok (.iinc 2 1, 3) := by decide +kernel
theorem d_X12_again_83 : decode i_X12_again.2.1 83 = .ok (.goto (-65), 3) := by decide +kernel
theorem d_X12_again_86 : decode i_X12_again.2.1 86 = .ok (.iconst (-1), 1) := by decide +kernel
theorem d_X12_again_87 : decode i_X12_again.2.1 87 = .ok (.ireturn, 1) := by decide +kernel
def BLp_X12_again_18 (x0 : Nat) (x1 : Int) (P18 : Int → Hp → Prop) (x2 : Int) (h : Hp) (Q : Int → Hp → Prop) : Prop :=
  (60 < x2 → (Q (-1) h)) ∧ (¬ 60 < x2 → (hK h x0 = 11 ∧ C_X12_earlier x0 x2 h (fun r2 h1 => ((r2 = (-1) → (hK h1 x0 = 11 ∧ (hK h1 x0 = 11 ∧ ((hK h1 (hR h1 x0 35) = 12 ∧ (0 : Int) ≤ x2 ∧ x2 < hL h1 (hR h1 x0 35)) ∧ ∀ h3 : Hp, h3 = wI h1 (hR h1 x0 35) x2 (hI h1 x0 29) → (hK h3 x0 = 11 ∧ (hK h3 x0 = 11 ∧ (((-2147483648 : Int) ≤ 60 * x2 ∧ 60 * x2 ≤ (2147483647 : Int)) ∧ (hK h3 x0 = 11 ∧ (C_X12_bring (hR h3 x0 28) 0 (hR h3 x0 34) (60 * x2) (hI h3 x0 29) h3 (fun h4 => (hK h4 x0 = 11 ∧ C_X12_reads x0 3 h4 (fun h5 => (((-2147483648 : Int) ≤ x2 + 1 ∧ x2 + 1 ≤ (2147483647 : Int)) ∧ (P18 (x2 + 1) h5)))))))))))))) ∧ (¬ r2 = (-1) → ((x1 ≠ 0 → (Q r2 h1)) ∧ (x1 = 0 → (Q x2 h1))))))))
def Lp_X12_again_18 (x0 : Nat) (x1 : Int) (x2 : Int) (h : Hp) (Q : Int → Hp → Prop) : Prop := ∀ P18 : Int → Hp → Prop, (∀ (x2 : Int) (h : Hp), BLp_X12_again_18 x0 x1 P18 x2 h Q → P18 x2 h) → P18 x2 h
theorem Lp_X12_again_18_ind {x0 : Nat} {x1 : Int} {Q : Int → Hp → Prop} (I : Int → Hp → Prop) (μ : Int → Hp → Nat) (hs : ∀ (P18 : Int → Hp → Prop) (x2 : Int) (h : Hp), I x2 h → (∀ (x2' : Int) (h' : Hp), I x2' h' → μ x2' h' < μ x2 h → P18 x2' h') → BLp_X12_again_18 x0 x1 P18 x2 h Q) : ∀ (x2 : Int) (h : Hp), I x2 h → Lp_X12_again_18 x0 x1 x2 h Q := by
  intro x2 h hI P18 hP
  have key : ∀ (n : Nat) (x2 : Int) (h : Hp), I x2 h → μ x2 h < n → P18 x2 h := by
    intro n
    induction n with
    | zero => intro x2 h _ hl; exact absurd hl (Nat.not_lt_zero _)
    | succ n ih => intro x2 h hi hl; exact hP x2 h (hs P18 x2 h hi (fun x2 h' hi' hl' => ih x2 h' hi' (by omega)))
  exact key _ x2 h hI (Nat.lt_succ_self _)
theorem GLp_X12_again_18 (x0 : Nat) (x1 : Int) (x2 : Int) (h : Hp) (Q : Int → Hp → Prop) (hV : Lp_X12_again_18 x0 x1 x2 h Q) : Go i_X12_again 18 [(0, .inr (.inr x0)), (1, .inl x1), (2, .inl x2)] [] h (qI Q) := by
  refine hV (fun x2 h => Go i_X12_again 18 [(0, .inr (.inr x0)), (1, .inl x1), (2, .inl x2)] [] h (qI Q)) (fun x2 h hV => ?_)
  unfold BLp_X12_again_18 at hV
  have hP18 : ∀ (x2 : Int) (h : Hp), Go i_X12_again 18 [(0, .inr (.inr x0)), (1, .inl x1), (2, .inl x2)] [] h (qI Q) → Go i_X12_again 18 [(0, .inr (.inr x0)), (1, .inl x1), (2, .inl x2)] [] h (qI Q) := fun _ h z => z
  refine s_iload_n d_X12_again_18 rfl (ma 2 rfl) ?_
  refine s_bipush d_X12_again_19 (by decide) (okn rfl) ?_
  refine s_icmp_gt (tgt := 86) d_X12_again_21 (by decide) (fun c => ?_) (fun c => ?_)
  · have hV := hV.1 c
    refine s_iconst d_X12_again_86 (okn rfl) ?_
    exact s_iret d_X12_again_87 rfl rfl ⟨_, rfl, hV⟩
  · have hV := hV.2 c
    refine s_aload_n d_X12_again_24 rfl (ma 0 rfl) ?_
    refine s_iload_n d_X12_again_25 rfl (ma 2 rfl) ?_
    obtain ⟨o, hV⟩ := hV
    refine v_RX12_251 rfl (Nat.le_of_ble_eq_true rfl) d_X12_again_26 o (Nat.le_of_ble_eq_true rfl) hV (fun r2 h1 hV => ?_)
    refine s_istore_n (lv' := [(3, .inl r2), (0, .inr (.inr x0)), (1, .inl x1), (2, .inl x2)]) d_X12_again_29 rfl (Nat.le_of_ble_eq_true rfl) rfl ?_
    refine s_iload_n d_X12_again_30 rfl (ma 0 rfl) ?_
    refine s_iconst d_X12_again_31 (okn rfl) ?_
    refine s_icmp_eq (tgt := 45) d_X12_again_32 (by decide) (fun c => ?_) (fun c => ?_)
    · have hV := hV.1 c
      refine s_aload_n d_X12_again_45 rfl (ma 1 rfl) ?_
      obtain ⟨o, hV⟩ := hV
      refine f_RX12_75g rfl d_X12_again_46 o ?_
      refine s_iload_n d_X12_again_49 rfl (ma 3 rfl) ?_
      refine s_aload_n d_X12_again_50 rfl (ma 1 rfl) ?_
      obtain ⟨o, hV⟩ := hV
      refine f_RX12_186g rfl d_X12_again_51 o ?_
      obtain ⟨o, hV⟩ := hV
      refine s_iast d_X12_again_54 o.1 o.2.1 o.2.2 ?_
      refine s_nmH (fun h3 eh3 => ?_)
      have hV := hV h3 eh3
      refine s_aload_n d_X12_again_55 rfl (ma 1 rfl) ?_
      obtain ⟨o, hV⟩ := hV
      refine f_RX12_63g rfl d_X12_again_56 o ?_
      refine s_iconst d_X12_again_59 (okn rfl) ?_
      refine s_aload_n d_X12_again_60 rfl (ma 1 rfl) ?_
      obtain ⟨o, hV⟩ := hV
      refine f_RX12_72g rfl d_X12_again_61 o ?_
      refine s_bipush d_X12_again_64 (by decide) (okn rfl) ?_
      refine s_iload_n d_X12_again_66 rfl (ma 3 rfl) ?_
      obtain ⟨o, hV⟩ := hV
      refine s_imul d_X12_again_67 o ?_
      refine s_aload_n d_X12_again_68 rfl (ma 1 rfl) ?_
      obtain ⟨o, hV⟩ := hV
      refine f_RX12_186g rfl d_X12_again_69 o ?_
      refine v_RX12_136 rfl (Nat.le_of_ble_eq_true rfl) d_X12_again_72 (Nat.le_of_ble_eq_true rfl) hV (fun h4 hV => ?_)
      refine s_aload_n d_X12_again_75 rfl (ma 1 rfl) ?_
      refine s_iconst d_X12_again_76 (okn rfl) ?_
      obtain ⟨o, hV⟩ := hV
      refine v_RX12_208 rfl (Nat.le_of_ble_eq_true rfl) d_X12_again_77 o (Nat.le_of_ble_eq_true rfl) hV (fun h5 hV => ?_)
      obtain ⟨o, hV⟩ := hV
      refine s_iinc (lv' := [(2, .inl (x2 + 1)), (3, .inl r2), (0, .inr (.inr x0)), (1, .inl x1)]) d_X12_again_80 (ma 3 rfl) o (Nat.le_of_ble_eq_true rfl) rfl ?_
      refine s_goto (tgt := 18) d_X12_again_83 (by decide) ?_
      refine s_pick (lv' := [(0, .inr (.inr x0)), (1, .inl x1), (2, .inl (x2 + 1))]) [2, 3, 0] rfl ?_
      exact hP18 _ _ hV
    · have hV := hV.2 c
      refine s_iload_n d_X12_again_35 rfl (ma 2 rfl) ?_
      refine s_if_ne (tgt := 43) d_X12_again_36 (by decide) (fun c => ?_) (fun c => ?_)
      · have hV := hV.1 c
        refine s_iload_n d_X12_again_43 rfl (ma 0 rfl) ?_
        exact s_iret d_X12_again_44 rfl rfl ⟨_, rfl, hV⟩
      · have hV := hV.2 c
        refine s_iload_n d_X12_again_39 rfl (ma 3 rfl) ?_
        refine s_goto (tgt := 44) d_X12_again_40 (by decide) ?_
        exact s_iret d_X12_again_44 rfl rfl ⟨_, rfl, hV⟩
def V_X12_again (x0 : Nat) (x1 : Int) (h : Hp) (Q : Int → Hp → Prop) : Prop :=
  C_X12_is x1 0 1 h (fun r2 h1 => ((r2 ≠ 0 → (hK h1 x0 = 11 ∧ C_X12_begin x0  h1 (fun h3 => (Lp_X12_again_18 x0 x1 0 h3 Q)))) ∧ (r2 = 0 → (Q (-1000000002) h1))))
theorem G_X12_again {x0 : Nat} {x1 : Int} (h : Hp) (Q : Int → Hp → Prop) (hV : V_X12_again x0 x1 h Q) : C_X12_again x0 x1 h Q := by
  unfold V_X12_again at hV
  show Go i_X12_again 0 [(0, .inr (.inr x0)), (1, .inl x1)] [] h (qI Q)
  refine s_iload_n d_X12_again_0 rfl (ma 1 rfl) ?_
  refine s_iconst d_X12_again_1 (okn rfl) ?_
  refine s_iconst d_X12_again_2 (okn rfl) ?_
  refine v_RX12_90 rfl (Nat.le_of_ble_eq_true rfl) d_X12_again_3 (Nat.le_of_ble_eq_true rfl) hV (fun r2 h1 hV => ?_)
  refine s_if_ne (tgt := 12) d_X12_again_6 (by decide) (fun c => ?_) (fun c => ?_)
  · have hV := hV.1 c
    refine s_aload_n d_X12_again_12 rfl (ma 0 rfl) ?_
    obtain ⟨o, hV⟩ := hV
    refine v_RX12_205 rfl (Nat.le_of_ble_eq_true rfl) d_X12_again_13 o (Nat.le_of_ble_eq_true rfl) hV (fun h3 hV => ?_)
    refine s_iconst d_X12_again_16 (okn rfl) ?_
    refine s_istore_n (lv' := [(2, .inl 0), (0, .inr (.inr x0)), (1, .inl x1)]) d_X12_again_17 rfl (Nat.le_of_ble_eq_true rfl) rfl ?_
    refine s_pick (lv' := [(0, .inr (.inr x0)), (1, .inl x1), (2, .inl 0)]) [1, 2, 0] rfl ?_
    exact GLp_X12_again_18 _ _ _ _ _ hV
  · have hV := hV.2 c
    refine s_ldc (n := (-1000000002)) d_X12_again_9 k_RX12_94 (by decide) (okn rfl) ?_
    exact s_iret d_X12_again_11 rfl rfl ⟨_, rfl, hV⟩

theorem d_X12_addPart_0 : decode i_X12_addPart.2.1 0 = .ok (.aload_n 0, 1) := by decide +kernel
theorem d_X12_addPart_1 : decode i_X12_addPart.2.1 1 = .ok (.iload_n 2, 1) := by decide +kernel
theorem d_X12_addPart_2 : decode i_X12_addPart.2.1 2 = .ok (.iload_n 1, 1) := by decide +kernel
theorem d_X12_addPart_3 : decode i_X12_addPart.2.1 3 = .ok (.isub, 1) := by decide +kernel
theorem d_X12_addPart_4 : decode i_X12_addPart.2.1 4 = .ok (.putfield 186, 3) := by decide +kernel
theorem d_X12_addPart_7 : decode i_X12_addPart.2.1 7 = .ok (.aload_n 0, 1) := by decide +kernel
theorem d_X12_addPart_8 : decode i_X12_addPart.2.1 8 = .ok (.getfield 32, 3) := by decide +kernel
theorem d_X12_addPart_11 : decode i_X12_addPart.2.1 11 = .ok (.iconst 3, 1) := by decide +kernel
theorem d_X12_addPart_12 : decode i_X12_addPart.2.1 12 = .ok (.iload_n 1, 1) := by decide +kernel
theorem d_X12_addPart_13 : decode i_X12_addPart.2.1 13 = .ok (.iadd, 1) := by decide +kernel
theorem d_X12_addPart_14 : decode i_X12_addPart.2.1 14 = .ok (.aload_n 0, 1) := by decide +kernel
theorem d_X12_addPart_15 : decode i_X12_addPart.2.1 15 = .ok (.getfield 63, 3) := by decide +kernel
theorem d_X12_addPart_18 : decode i_X12_addPart.2.1 18 = .ok (.iconst 0, 1) := by decide +kernel
theorem d_X12_addPart_19 : decode i_X12_addPart.2.1 19 = .ok (.aload_n 0, 1) := by decide +kernel
theorem d_X12_addPart_20 : decode i_X12_addPart.2.1 20 = .ok (.getfield 186, 3) := by decide +kernel
theorem d_X12_addPart_23 : decode i_X12_addPart.2.1 23 = .ok (.invokestatic 136, 3) := by decide +kernel
theorem d_X12_addPart_26 : decode i_X12_addPart.2.1 26 = .ok (.iconst 0, 1) := by decide +kernel
theorem d_X12_addPart_27 : decode i_X12_addPart.2.1 27 = .ok (.istore 4, 2) := by decide +kernel
theorem d_X12_addPart_29 : decode i_X12_addPart.2.1 29 = .ok (.iload 4, 2) := by decide +kernel
theorem d_X12_addPart_31 : decode i_X12_addPart.2.1 31 = .ok (.iload_n 3, 1) := by decide +kernel
theorem d_X12_addPart_32 : decode i_X12_addPart.2.1 32 = .ok (.if_icmp .ge 14, 3) := by decide +kernel
theorem d_X12_addPart_35 : decode i_X12_addPart.2.1 35 = .ok (.aload_n 0, 1) := by decide +kernel
theorem d_X12_addPart_36 : decode i_X12_addPart.2.1 36 = .ok (.iconst 0, 1) := by decide +kernel
theorem d_X12_addPart_37 : decode i_X12_addPart.2.1 37 = .ok (.invokevirtual 208, 3) := by decide +kernel
theorem d_X12_addPart_40 : decode i_X12_addPart.2.1 40 = .ok (.iinc 4 1, 3) := by decide +kernel
theorem d_X12_addPart_43 : decode i_X12_addPart.2.1 43 = .ok (.goto (-14), 3) := by decide +kernel
theorem d_X12_addPart_46 : decode i_X12_addPart.2.1 46 = .ok (.aload_n 0, 1) := by decide +kernel
theorem d_X12_addPart_47 : decode i_X12_addPart.2.1 47 = .ok (.getfield 63, 3) := by decide +kernel
theorem d_X12_addPart_50 : decode i_X12_addPart.2.1 50 = .ok (.iconst 0, 1) := by decide +kernel
theorem d_X12_addPart_51 : decode i_X12_addPart.2.1 51 = .ok (.aload_n 0, 1) := by decide +kernel
theorem d_X12_addPart_52 : decode i_X12_addPart.2.1 52 = .ok (.getfield 69, 3) := by decide +kernel
theorem d_X12_addPart_55 : decode i_X12_addPart.2.1 55 = .ok (.aload_n 0, 1) := by decide +kernel
theorem d_X12_addPart_56 : decode i_X12_addPart.2.1 56 = .ok (.getfield 254, 3) := by decide +kernel
theorem d_X12_addPart_59 : decode i_X12_addPart.2.1 59 = .ok (.aload_n 0, 1) := by decide +kernel
theorem d_X12_addPart_60 : decode i_X12_addPart.2.1 60 = .ok (.getfield 186, 3) := by decide +kernel
theorem d_X12_addPart_63 : decode i_X12_addPart.2.1 63 = .ok (.invokestatic 136, 3) := by decide +kernel
theorem d_X12_addPart_66 : decode i_X12_addPart.2.1 66 = .ok (.aload_n 0, 1) := by decide +kernel
theorem d_X12_addPart_67 : decode i_X12_addPart.2.1 67 = .ok (.dup, 1) := by decide +kernel
theorem d_X12_addPart_68 : decode i_X12_addPart.2.1 68 = .ok (.getfield 254, 3) := by decide +kernel
theorem d_X12_addPart_71 : decode i_X12_addPart.2.1 71 = .ok (.aload_n 0, 1) := by decide +kernel
theorem d_X12_addPart_72 : decode i_X12_addPart.2.1 72 = .ok (.getfield 186, 3) := by decide +kernel
theorem d_X12_addPart_75 : decode i_X12_addPart.2.1 75 = .ok (.iadd, 1) := by decide +kernel
theorem d_X12_addPart_76 : decode i_X12_addPart.2.1 76 = .ok (.putfield 254, 3) := by decide +kernel
theorem d_X12_addPart_79 : decode i_X12_addPart.2.1 79 = .ok (.return_, 1) := by decide +kernel
def BLp_X12_addPart_29 (x0 : Nat) (x3 : Int) (P29 : Int → Hp → Prop) (x4 : Int) (h : Hp) (Q : Hp → Prop) : Prop :=
  (x3 ≤ x4 → (hK h x0 = 11 ∧ (hK h x0 = 11 ∧ (hK h x0 = 11 ∧ (hK h x0 = 11 ∧ (C_X12_bring (hR h x0 28) 0 (hR h x0 32) (hI h x0 33) (hI h x0 29) h (fun h1 => (hK h1 x0 = 11 ∧ (hK h1 x0 = 11 ∧ (((-2147483648 : Int) ≤ (hI h1 x0 33) + (hI h1 x0 29) ∧ (hI h1 x0 33) + (hI h1 x0 29) ≤ (2147483647 : Int)) ∧ (hK h1 x0 = 11 ∧ ∀ h2 : Hp, h2 = wI h1 x0 33 ((hI h1 x0 33) + (hI h1 x0 29)) → (Q h2)))))))))))) ∧ (¬ x3 ≤ x4 → (hK h x0 = 11 ∧ C_X12_reads x0 0 h (fun h3 => (((-2147483648 : Int) ≤ x4 + 1 ∧ x4 + 1 ≤ (2147483647 : Int)) ∧ (P29 (x4 + 1) h3)))))
def Lp_X12_addPart_29 (x0 : Nat) (x3 : Int) (x4 : Int) (h : Hp) (Q : Hp → Prop) : Prop := ∀ P29 : Int → Hp → Prop, (∀ (x4 : Int) (h : Hp), BLp_X12_addPart_29 x0 x3 P29 x4 h Q → P29 x4 h) → P29 x4 h
theorem Lp_X12_addPart_29_ind {x0 : Nat} {x3 : Int} {Q : Hp → Prop} (I : Int → Hp → Prop) (μ : Int → Hp → Nat) (hs : ∀ (P29 : Int → Hp → Prop) (x4 : Int) (h : Hp), I x4 h → (∀ (x4' : Int) (h' : Hp), I x4' h' → μ x4' h' < μ x4 h → P29 x4' h') → BLp_X12_addPart_29 x0 x3 P29 x4 h Q) : ∀ (x4 : Int) (h : Hp), I x4 h → Lp_X12_addPart_29 x0 x3 x4 h Q := by
  intro x4 h hI P29 hP
  have key : ∀ (n : Nat) (x4 : Int) (h : Hp), I x4 h → μ x4 h < n → P29 x4 h := by
    intro n
    induction n with
    | zero => intro x4 h _ hl; exact absurd hl (Nat.not_lt_zero _)
    | succ n ih => intro x4 h hi hl; exact hP x4 h (hs P29 x4 h hi (fun x4 h' hi' hl' => ih x4 h' hi' (by omega)))
  exact key _ x4 h hI (Nat.lt_succ_self _)
theorem GLp_X12_addPart_29 (x0 : Nat) (x3 : Int) (x4 : Int) (h : Hp) (Q : Hp → Prop) (hV : Lp_X12_addPart_29 x0 x3 x4 h Q) : Go i_X12_addPart 29 [(0, .inr (.inr x0)), (3, .inl x3), (4, .inl x4)] [] h (qV Q) := by
  refine hV (fun x4 h => Go i_X12_addPart 29 [(0, .inr (.inr x0)), (3, .inl x3), (4, .inl x4)] [] h (qV Q)) (fun x4 h hV => ?_)
  unfold BLp_X12_addPart_29 at hV
  have hP29 : ∀ (x4 : Int) (h : Hp), Go i_X12_addPart 29 [(0, .inr (.inr x0)), (3, .inl x3), (4, .inl x4)] [] h (qV Q) → Go i_X12_addPart 29 [(0, .inr (.inr x0)), (3, .inl x3), (4, .inl x4)] [] h (qV Q) := fun _ h z => z
  refine s_iload d_X12_addPart_29 (ma 2 rfl) ?_
  refine s_iload_n d_X12_addPart_31 rfl (ma 1 rfl) ?_
  refine s_icmp_ge (tgt := 46) d_X12_addPart_32 (by decide) (fun c => ?_) (fun c => ?_)
  · have hV := hV.1 c
    refine s_aload_n d_X12_addPart_46 rfl (ma 0 rfl) ?_
    obtain ⟨o, hV⟩ := hV
    refine f_RX12_63g rfl d_X12_addPart_47 o ?_
    refine s_iconst d_X12_addPart_50 (okn rfl) ?_
    refine s_aload_n d_X12_addPart_51 rfl (ma 0 rfl) ?_
    obtain ⟨o, hV⟩ := hV
    refine f_RX12_69g rfl d_X12_addPart_52 o ?_
    refine s_aload_n d_X12_addPart_55 rfl (ma 0 rfl) ?_
    obtain ⟨o, hV⟩ := hV
    refine f_RX12_254g rfl d_X12_addPart_56 o ?_
    refine s_aload_n d_X12_addPart_59 rfl (ma 0 rfl) ?_
    obtain ⟨o, hV⟩ := hV
    refine f_RX12_186g rfl d_X12_addPart_60 o ?_
    refine v_RX12_136 rfl (Nat.le_of_ble_eq_true rfl) d_X12_addPart_63 (Nat.le_of_ble_eq_true rfl) hV (fun h1 hV => ?_)
    refine s_aload_n d_X12_addPart_66 rfl (ma 0 rfl) ?_
    refine s_dup d_X12_addPart_67 rfl ?_
    obtain ⟨o, hV⟩ := hV
    refine f_RX12_254g rfl d_X12_addPart_68 o ?_
    refine s_aload_n d_X12_addPart_71 rfl (ma 0 rfl) ?_
    obtain ⟨o, hV⟩ := hV
    refine f_RX12_186g rfl d_X12_addPart_72 o ?_
    obtain ⟨o, hV⟩ := hV
    refine s_iadd d_X12_addPart_75 o ?_
    obtain ⟨o, hV⟩ := hV
    refine f_RX12_254p rfl d_X12_addPart_76 o (fun h2 eh2 => ?_)
    have hV := hV h2 eh2
    exact s_vret d_X12_addPart_79 rfl ⟨rfl, hV⟩
  · have hV := hV.2 c
    refine s_aload_n d_X12_addPart_35 rfl (ma 0 rfl) ?_
    refine s_iconst d_X12_addPart_36 (okn rfl) ?_
    obtain ⟨o, hV⟩ := hV
    refine v_RX12_208 rfl (Nat.le_of_ble_eq_true rfl) d_X12_addPart_37 o (Nat.le_of_ble_eq_true rfl) hV (fun h3 hV => ?_)
    obtain ⟨o, hV⟩ := hV
    refine s_iinc (lv' := [(4, .inl (x4 + 1)), (0, .inr (.inr x0)), (3, .inl x3)]) d_X12_addPart_40 (ma 2 rfl) o (Nat.le_of_ble_eq_true rfl) rfl ?_
    refine s_goto (tgt := 29) d_X12_addPart_43 (by decide) ?_
    refine s_pick (lv' := [(0, .inr (.inr x0)), (3, .inl x3), (4, .inl (x4 + 1))]) [1, 2, 0] rfl ?_
    exact hP29 _ _ hV
def V_X12_addPart (x0 : Nat) (x1 : Int) (x2 : Int) (x3 : Int) (h : Hp) (Q : Hp → Prop) : Prop :=
  ((-2147483648 : Int) ≤ x2 - x1 ∧ x2 - x1 ≤ (2147483647 : Int)) ∧ (hK h x0 = 11 ∧ ∀ h1 : Hp, h1 = wI h x0 29 (x2 - x1) → (hK h1 x0 = 11 ∧ (((-2147483648 : Int) ≤ 3 + x1 ∧ 3 + x1 ≤ (2147483647 : Int)) ∧ (hK h1 x0 = 11 ∧ (hK h1 x0 = 11 ∧ (C_X12_bring (hR h1 x0 14) (3 + x1) (hR h1 x0 28) 0 (hI h1 x0 29) h1 (fun h2 => (Lp_X12_addPart_29 x0 x3 0 h2 Q))))))))
theorem G_X12_addPart {x0 : Nat} {x1 : Int} {x2 : Int} {x3 : Int} (h : Hp) (Q : Hp → Prop) (hV : V_X12_addPart x0 x1 x2 x3 h Q) : C_X12_addPart x0 x1 x2 x3 h Q := by
  unfold V_X12_addPart at hV
  show Go i_X12_addPart 0 [(0, .inr (.inr x0)), (1, .inl x1), (2, .inl x2), (3, .inl x3)] [] h (qV Q)
  refine s_aload_n d_X12_addPart_0 rfl (ma 0 rfl) ?_
  refine s_iload_n d_X12_addPart_1 rfl (ma 2 rfl) ?_
  refine s_iload_n d_X12_addPart_2 rfl (ma 1 rfl) ?_
  obtain ⟨o, hV⟩ := hV
  refine s_isub d_X12_addPart_3 o ?_
  obtain ⟨o, hV⟩ := hV
  refine f_RX12_186p rfl d_X12_addPart_4 o (fun h1 eh1 => ?_)
  have hV := hV h1 eh1
  refine s_aload_n d_X12_addPart_7 rfl (ma 0 rfl) ?_
  obtain ⟨o, hV⟩ := hV
  refine f_RX12_32g rfl d_X12_addPart_8 o ?_
  refine s_iconst d_X12_addPart_11 (okn rfl) ?_
  refine s_iload_n d_X12_addPart_12 rfl (ma 1 rfl) ?_
  obtain ⟨o, hV⟩ := hV
  refine s_iadd d_X12_addPart_13 o ?_
  refine s_aload_n d_X12_addPart_14 rfl (ma 0 rfl) ?_
  obtain ⟨o, hV⟩ := hV
  refine f_RX12_63g rfl d_X12_addPart_15 o ?_
  refine s_iconst d_X12_addPart_18 (okn rfl) ?_
  refine s_aload_n d_X12_addPart_19 rfl (ma 0 rfl) ?_
  obtain ⟨o, hV⟩ := hV
  refine f_RX12_186g rfl d_X12_addPart_20 o ?_
  refine v_RX12_136 rfl (Nat.le_of_ble_eq_true rfl) d_X12_addPart_23 (Nat.le_of_ble_eq_true rfl) hV (fun h2 hV => ?_)
  refine s_iconst d_X12_addPart_26 (okn rfl) ?_
  refine s_istore (lv' := [(4, .inl 0), (0, .inr (.inr x0)), (1, .inl x1), (2, .inl x2), (3, .inl x3)]) d_X12_addPart_27 (Nat.le_of_ble_eq_true rfl) rfl ?_
  refine s_pick (lv' := [(0, .inr (.inr x0)), (3, .inl x3), (4, .inl 0)]) [1, 4, 0] rfl ?_
  exact GLp_X12_addPart_29 _ _ _ _ _ hV

theorem d_X12_isApart_0 : decode i_X12_isApart.2.1 0 = .ok (.iconst 1, 1) := by decide +kernel
theorem d_X12_isApart_1 : decode i_X12_isApart.2.1 1 = .ok (.istore_n 2, 1) := by decide +kernel
theorem d_X12_isApart_2 : decode i_X12_isApart.2.1 2 = .ok (.iconst 1, 1) := by decide +kernel
theorem d_X12_isApart_3 : decode i_X12_isApart.2.1 3 = .ok (.istore_n 3, 1) := by decide +kernel
theorem d_X12_isApart_4 : decode i_X12_isApart.2.1 4 = .ok (.iload_n 3, 1) := by decide +kernel
theorem d_X12_isApart_5 : decode i_X12_isApart.2.1 5 = .ok (.bipush 6, 2) := by decide +kernel
theorem d_X12_isApart_7 : decode i_X12_isApart.2.1 7 = .ok (.if_icmp .gt 105, 3) := by decide +kernel
theorem d_X12_isApart_10 : decode i_X12_isApart.2.1 10 = .ok (.iload_n 2, 1) := by decide +kernel
theorem d_X12_isApart_11 : decode i_X12_isApart.2.1 11 = .ok (.ifCond .eq 101, 3) := by decide +kernel
theorem d_X12_isApart_14 : decode i_X12_isApart.2.1 14 = .ok (.aload_n 0, 1) := by decide +kernel
theorem d_X12_isApart_15 : decode i_X12_isApart.2.1 15 = .ok (.iconst 0, 1) := by decide +kernel
theorem d_X12_isApart_16 : decode i_X12_isApart.2.1 16 = .ok (.putfield 254, 3) := by decide +kernel
theorem d_X12_isApart_19 : decode i_X12_isApart.2.1 19 = .ok (.aload_n 0, 1) := by decide +kernel
theorem d_X12_isApart_20 : decode i_X12_isApart.2.1 20 = .ok (.iconst 0, 1) := by decide +kernel
theorem d_X12_isApart_21 : decode i_X12_isApart.2.1 21 = .ok (.iload_n 1, 1) := by decide +kernel
theorem d_X12_isApart_22 : decode i_X12_isApart.2.1 22 = .ok (.iload_n 3, 1) := by decide +kernel
theorem d_X12_isApart_23 : decode i_X12_isApart.2.1 23 = .ok (.invokevirtual 257, 3) := by decide +kernel
theorem d_X12_isApart_26 : decode i_X12_isApart.2.1 26 = .ok (.aload_n 0, 1) := by decide +kernel
theorem d_X12_isApart_27 : decode i_X12_isApart.2.1 27 = .ok (.iload_n 1, 1) := by decide +kernel
theorem d_X12_isApart_28 : decode i_X12_isApart.2.1 28 = .ok (.aload_n 0, 1) := by decide +kernel
theorem d_X12_isApart_29 : decode i_X12_isApart.2.1 29 = .ok (.getfield 32, 3) := by decide +kernel
theorem d_X12_isApart_32 : decode i_X12_isApart.2.1 32 = .ok (.iconst 0, 1) := by decide +kernel
theorem d_X12_isApart_33 : decode i_X12_isApart.2.1 33 = .ok (.iaload, 1) := by decide +kernel
theorem d_X12_isApart_34 : decode i_X12_isApart.2.1 34 = .ok (.iload_n 3, 1) := by decide +kernel
theorem d_X12_isApart_35 : decode i_X12_isApart.2.1 35 = .ok (.invokevirtual 257, 3) := by decide +kernel
theorem d_X12_isApart_38 : decode i_X12_isApart.2.1 38 = .ok (.aload_n 0, 1) := by decide +kernel
theorem d_X12_isApart_39 : decode i_X12_isApart.2.1 39 = .ok (.iconst 0, 1) := by decide +kernel
theorem d_X12_isApart_40 : decode i_X12_isApart.2.1 40 = .ok (.iload_n 3, 1) := by decide +kernel
theorem d_X12_isApart_41 : decode i_X12_isApart.2.1 41 = .ok (.invokevirtual 241, 3) := by decide +kernel
theorem d_X12_isApart_44 : decode i_X12_isApart.2.1 44 = .ok (.aload_n 0, 1) := by decide +kernel
theorem d_X12_isApart_45 : decode i_X12_isApart.2.1 45 = .ok (.getfield 186, 3) := by decide +kernel
theorem d_X12_isApart_48 : decode i_X12_isApart.2.1 48 = .ok (.aload_n 0, 1) := by decide +kernel
theorem d_X12_isApart_49 : decode i_X12_isApart.2.1 49 = .ok (.getfield 254, 3) := by decide +kernel
theorem d_X12_isApart_52 : decode i_X12_isApart.2.1 52 = .ok (.if_icmp .ne 7, 3) := by decide +kernel
theorem d_X12_isApart_55 : decode i_X12_isApart.2.1 55 = .ok (.iconst 1, 1) := by decide +kernel
theorem d_X12_isApart_56 : decode i_X12_isApart.2.1 56 = .ok (.goto 4, 3) := by decide +kernel
theorem d_X12_isApart_59 : decode i_X12_isApart.2.1 59 = .ok (.iconst 0, 1) := by decide +kernel
theorem d_X12_isApart_60 : decode i_X12_isApart.2.1 60 = .ok (.istore_n 2, 1) := by decide +kernel
theorem d_X12_isApart_61 : decode i_X12_isApart.2.1 61 = .ok (.iconst 0, 1) := by decide +kernel
theorem d_X12_isApart_62 : decode i_X12_isApart.2.1 62 = .ok (.istore 4, 2) := by decide +kernel
theorem d_X12_isApart_64 : decode i_X12_isApart.2.1 64 = .ok (.iload 4, 2) := by decide +kernel
theorem d_X12_isApart_66 : decode i_X12_isApart.2.1 66 = .ok (.aload_n 0, 1) := by decide +kernel
theorem d_X12_isApart_67 : decode i_X12_isApart.2.1 67 = .ok (.getfield 186, 3) := by decide +kernel
theorem d_X12_isApart_70 : decode i_X12_isApart.2.1 70 = .ok (.if_icmp .ge 36, 3) := by decide +kernel
theorem d_X12_isApart_73 : decode i_X12_isApart.2.1 73 = .ok (.iload_n 2, 1) := by decide +kernel
theorem d_X12_isApart_74 : decode i_X12_isApart.2.1 74 = .ok (.ifCond .eq 32, 3) := by decide +kernel
theorem d_X12_isApart_77 : decode i_X12_isApart.2.1 77 = .ok (.aload_n 0, 1) := by decide +kernel
theorem d_X12_isApart_78 : decode i_X12_isApart.2.1 78 = .ok (.getfield 63, 3) := by decide +kernel
theorem d_X12_isApart_81 : decode i_X12_isApart.2.1 81 = .ok (.iload 4, 2) := by decide +kernel
theorem d_X12_isApart_83 : decode i_X12_isApart.2.1 83 = .ok (.iaload, 1) := by decide +kernel
theorem d_X12_isApart_84 : decode i_X12_isApart.2.1 84 = .ok (.aload_n 0, 1) := by decide +kernel
theorem d_X12_isApart_85 : decode i_X12_isApart.2.1 85 = .ok (.getfield 69, 3) := by decide +kernel
theorem d_X12_isApart_88 : decode i_X12_isApart.2.1 88 = .ok (.iload 4, 2) := by decide +kernel
theorem d_X12_isApart_90 : decode i_X12_isApart.2.1 90 = .ok (.iaload, 1) := by decide +kernel
theorem d_X12_isApart_91 : decode i_X12_isApart.2.1 91 = .ok (.if_icmp .ne 7, 3) := by decide +kernel
theorem d_X12_isApart_94 : decode i_X12_isApart.2.1 94 = .ok (.iconst 1, 1) := by decide +kernel
theorem d_X12_isApart_95 : decode i_X12_isApart.2.1 95 = .ok (.goto 4, 3) := by decide +kernel
theorem d_X12_isApart_98 : decode i_X12_isApart.2.1 98 = .ok (.iconst 0, 1) := by decide +kernel
theorem d_X12_isApart_99 : decode i_X12_isApart.2.1 99 = .ok (.istore_n 2, 1) := by decide +kernel
theorem d_X12_isApart_100 : decode i_X12_isApart.2.1 100 = .ok (.iinc 4 1, 3) := by decide +kernel
theorem d_X12_isApart_103 : decode i_X12_isApart.2.1 103 = .ok (.goto (-39), 3) := by decide +kernel
theorem d_X12_isApart_106 : decode i_X12_isApart.2.1 106 = .ok (.iinc 3 1, 3) := by decide +kernel
theorem d_X12_isApart_109 : decode i_X12_isApart.2.1 109 = .ok (.goto (-105), 3) := by decide +kernel
theorem d_X12_isApart_112 : decode i_X12_isApart.2.1 112 = .ok (.iload_n 2, 1) := by decide +kernel
theorem d_X12_isApart_113 : decode i_X12_isApart.2.1 113 = .ok (.ireturn, 1) := by decide +kernel
def BLp_X12_isApart_64 (P4 : Int → Int → Hp → Prop) (x0 : Nat) (x1 : Int) (x3 : Int) (P64 : Int → Int → Hp → Prop) (x2 : Int) (x4 : Int) (h : Hp) (Q : Int → Hp → Prop) : Prop :=
  hK h x0 = 11 ∧ ((hI h x0 29 ≤ x4 → (((-2147483648 : Int) ≤ x3 + 1 ∧ x3 + 1 ≤ (2147483647 : Int)) ∧ (P4 x2 (x3 + 1) h))) ∧ (¬ hI h x0 29 ≤ x4 → ((x2 = 0 → (((-2147483648 : Int) ≤ x3 + 1 ∧ x3 + 1 ≤ (2147483647 : Int)) ∧ (P4 x2 (x3 + 1) h))) ∧ (¬ x2 = 0 → (hK h x0 = 11 ∧ ((hK h (hR h x0 28) = 12 ∧ (0 : Int) ≤ x4 ∧ x4 < hL h (hR h x0 28)) ∧ (hK h x0 = 11 ∧ ((hK h (hR h x0 32) = 12 ∧ (0 : Int) ≤ x4 ∧ x4 < hL h (hR h x0 32)) ∧ ((hI h (hR h x0 28) x4 ≠ hI h (hR h x0 32) x4 → (((-2147483648 : Int) ≤ x4 + 1 ∧ x4 + 1 ≤ (2147483647 : Int)) ∧ (P64 0 (x4 + 1) h))) ∧ (hI h (hR h x0 28) x4 = hI h (hR h x0 32) x4 → (((-2147483648 : Int) ≤ x4 + 1 ∧ x4 + 1 ≤ (2147483647 : Int)) ∧ (P64 1 (x4 + 1) h))))))))))))
def Lp_X12_isApart_64 (P4 : Int → Int → Hp → Prop) (x0 : Nat) (x1 : Int) (x3 : Int) (x2 : Int) (x4 : Int) (h : Hp) (Q : Int → Hp → Prop) : Prop := ∀ P64 : Int → Int → Hp → Prop, (∀ (x2 : Int) (x4 : Int) (h : Hp), BLp_X12_isApart_64 P4 x0 x1 x3 P64 x2 x4 h Q → P64 x2 x4 h) → P64 x2 x4 h
theorem Lp_X12_isApart_64_ind {P4 : Int → Int → Hp → Prop} {x0 : Nat} {x1 : Int} {x3 : Int} {Q : Int → Hp → Prop} (I : Int → Int → Hp → Prop) (μ : Int → Int → Hp → Nat) (hs : ∀ (P64 : Int → Int → Hp → Prop) (x2 : Int) (x4 : Int) (h : Hp), I x2 x4 h → (∀ (x2' : Int) (x4' : Int) (h' : Hp), I x2' x4' h' → μ x2' x4' h' < μ x2 x4 h → P64 x2' x4' h') → BLp_X12_isApart_64 P4 x0 x1 x3 P64 x2 x4 h Q) : ∀ (x2 : Int) (x4 : Int) (h : Hp), I x2 x4 h → Lp_X12_isApart_64 P4 x0 x1 x3 x2 x4 h Q := by
  intro x2 x4 h hI P64 hP
  have key : ∀ (n : Nat) (x2 : Int) (x4 : Int) (h : Hp), I x2 x4 h → μ x2 x4 h < n → P64 x2 x4 h := by
    intro n
    induction n with
    | zero => intro x2 x4 h _ hl; exact absurd hl (Nat.not_lt_zero _)
    | succ n ih => intro x2 x4 h hi hl; exact hP x2 x4 h (hs P64 x2 x4 h hi (fun x2 x4 h' hi' hl' => ih x2 x4 h' hi' (by omega)))
  exact key _ x2 x4 h hI (Nat.lt_succ_self _)
theorem GLp_X12_isApart_64 {P4 : Int → Int → Hp → Prop} (x0 : Nat) (x1 : Int) (x3 : Int) (x2 : Int) (x4 : Int) (h : Hp) (Q : Int → Hp → Prop) (hP4 : ∀ (m2 : Int) (m3 : Int) (h : Hp), P4 m2 m3 h → Go i_X12_isApart 4 [(0, .inr (.inr x0)), (1, .inl x1), (2, .inl m2), (3, .inl m3)] [] h (qI Q)) (hV : Lp_X12_isApart_64 P4 x0 x1 x3 x2 x4 h Q) : Go i_X12_isApart 64 [(0, .inr (.inr x0)), (1, .inl x1), (2, .inl x2), (3, .inl x3), (4, .inl x4)] [] h (qI Q) := by
  refine hV (fun x2 x4 h => Go i_X12_isApart 64 [(0, .inr (.inr x0)), (1, .inl x1), (2, .inl x2), (3, .inl x3), (4, .inl x4)] [] h (qI Q)) (fun x2 x4 h hV => ?_)
  unfold BLp_X12_isApart_64 at hV
  have hP64 : ∀ (x2 : Int) (x4 : Int) (h : Hp), Go i_X12_isApart 64 [(0, .inr (.inr x0)), (1, .inl x1), (2, .inl x2), (3, .inl x3), (4, .inl x4)] [] h (qI Q) → Go i_X12_isApart 64 [(0, .inr (.inr x0)), (1, .inl x1), (2, .inl x2), (3, .inl x3), (4, .inl x4)] [] h (qI Q) := fun _ _ h z => z
  refine s_iload d_X12_isApart_64 (ma 4 rfl) ?_
  refine s_aload_n d_X12_isApart_66 rfl (ma 0 rfl) ?_
  obtain ⟨o, hV⟩ := hV
  refine f_RX12_186g rfl d_X12_isApart_67 o ?_
  refine s_icmp_ge (tgt := 106) d_X12_isApart_70 (by decide) (fun c => ?_) (fun c => ?_)
  · have hV := hV.1 c
    obtain ⟨o, hV⟩ := hV
    refine s_iinc (lv' := [(3, .inl (x3 + 1)), (0, .inr (.inr x0)), (1, .inl x1), (2, .inl x2), (4, .inl x4)]) d_X12_isApart_106 (ma 3 rfl) o (Nat.le_of_ble_eq_true rfl) rfl ?_
    refine s_goto (tgt := 4) d_X12_isApart_109 (by decide) ?_
    refine s_pick (lv' := [(0, .inr (.inr x0)), (1, .inl x1), (2, .inl x2), (3, .inl (x3 + 1))]) [1, 2, 3, 0] rfl ?_
    exact hP4 _ _ _ hV
  · have hV := hV.2 c
    refine s_iload_n d_X12_isApart_73 rfl (ma 2 rfl) ?_
    refine s_if_eq (tgt := 106) d_X12_isApart_74 (by decide) (fun c => ?_) (fun c => ?_)
    · have hV := hV.1 c
      obtain ⟨o, hV⟩ := hV
      refine s_iinc (lv' := [(3, .inl (x3 + 1)), (0, .inr (.inr x0)), (1, .inl x1), (2, .inl x2), (4, .inl x4)]) d_X12_isApart_106 (ma 3 rfl) o (Nat.le_of_ble_eq_true rfl) rfl ?_
      refine s_goto (tgt := 4) d_X12_isApart_109 (by decide) ?_
      refine s_pick (lv' := [(0, .inr (.inr x0)), (1, .inl x1), (2, .inl x2), (3, .inl (x3 + 1))]) [1, 2, 3, 0] rfl ?_
      exact hP4 _ _ _ hV
    · have hV := hV.2 c
      refine s_aload_n d_X12_isApart_77 rfl (ma 0 rfl) ?_
      obtain ⟨o, hV⟩ := hV
      refine f_RX12_63g rfl d_X12_isApart_78 o ?_
      refine s_iload d_X12_isApart_81 (ma 4 rfl) ?_
      obtain ⟨o, hV⟩ := hV
      refine s_iald d_X12_isApart_83 o.1 o.2.1 o.2.2 ?_
      refine s_aload_n d_X12_isApart_84 rfl (ma 0 rfl) ?_
      obtain ⟨o, hV⟩ := hV
      refine f_RX12_69g rfl d_X12_isApart_85 o ?_
      refine s_iload d_X12_isApart_88 (ma 4 rfl) ?_
      obtain ⟨o, hV⟩ := hV
      refine s_iald d_X12_isApart_90 o.1 o.2.1 o.2.2 ?_
      refine s_icmp_ne (tgt := 98) d_X12_isApart_91 (by decide) (fun c => ?_) (fun c => ?_)
      · have hV := hV.1 c
        refine s_iconst d_X12_isApart_98 (okn rfl) ?_
        refine s_istore_n (lv' := [(2, .inl 0), (0, .inr (.inr x0)), (1, .inl x1), (3, .inl x3), (4, .inl x4)]) d_X12_isApart_99 rfl (Nat.le_of_ble_eq_true rfl) rfl ?_
        obtain ⟨o, hV⟩ := hV
        refine s_iinc (lv' := [(4, .inl (x4 + 1)), (2, .inl 0), (0, .inr (.inr x0)), (1, .inl x1), (3, .inl x3)]) d_X12_isApart_100 (ma 4 rfl) o (Nat.le_of_ble_eq_true rfl) rfl ?_
        refine s_goto (tgt := 64) d_X12_isApart_103 (by decide) ?_
        refine s_pick (lv' := [(0, .inr (.inr x0)), (1, .inl x1), (2, .inl 0), (3, .inl x3), (4, .inl (x4 + 1))]) [2, 3, 1, 4, 0] rfl ?_
        exact hP64 _ _ _ hV
      · have hV := hV.2 c
        refine s_iconst d_X12_isApart_94 (okn rfl) ?_
        refine s_goto (tgt := 99) d_X12_isApart_95 (by decide) ?_
        refine s_istore_n (lv' := [(2, .inl 1), (0, .inr (.inr x0)), (1, .inl x1), (3, .inl x3), (4, .inl x4)]) d_X12_isApart_99 rfl (Nat.le_of_ble_eq_true rfl) rfl ?_
        obtain ⟨o, hV⟩ := hV
        refine s_iinc (lv' := [(4, .inl (x4 + 1)), (2, .inl 1), (0, .inr (.inr x0)), (1, .inl x1), (3, .inl x3)]) d_X12_isApart_100 (ma 4 rfl) o (Nat.le_of_ble_eq_true rfl) rfl ?_
        refine s_goto (tgt := 64) d_X12_isApart_103 (by decide) ?_
        refine s_pick (lv' := [(0, .inr (.inr x0)), (1, .inl x1), (2, .inl 1), (3, .inl x3), (4, .inl (x4 + 1))]) [2, 3, 1, 4, 0] rfl ?_
        exact hP64 _ _ _ hV
def BLp_X12_isApart_4 (x0 : Nat) (x1 : Int) (P4 : Int → Int → Hp → Prop) (x2 : Int) (x3 : Int) (h : Hp) (Q : Int → Hp → Prop) : Prop :=
  (6 < x3 → (((x2 : Int) = 0 ∨ (x2 : Int) = 1) ∧ Q x2 h)) ∧ (¬ 6 < x3 → ((x2 = 0 → (((x2 : Int) = 0 ∨ (x2 : Int) = 1) ∧ Q x2 h)) ∧ (¬ x2 = 0 → (hK h x0 = 11 ∧ ∀ h1 : Hp, h1 = wI h x0 33 0 → (hK h1 x0 = 11 ∧ C_X12_addPart x0 0 x1 x3 h1 (fun h2 => (hK h2 x0 = 11 ∧ ((hK h2 (hR h2 x0 14) = 12 ∧ (0 : Int) ≤ 0 ∧ 0 < hL h2 (hR h2 x0 14)) ∧ (hK h2 x0 = 11 ∧ C_X12_addPart x0 x1 (hI h2 (hR h2 x0 14) 0) x3 h2 (fun h3 => (hK h3 x0 = 11 ∧ C_X12_readOn x0 0 x3 h3 (fun h4 => (hK h4 x0 = 11 ∧ (hK h4 x0 = 11 ∧ ((hI h4 x0 29 ≠ hI h4 x0 33 → (Lp_X12_isApart_64 P4 x0 x1 x3 0 0 h4 Q)) ∧ (hI h4 x0 29 = hI h4 x0 33 → (Lp_X12_isApart_64 P4 x0 x1 x3 1 0 h4 Q)))))))))))))))))
def Lp_X12_isApart_4 (x0 : Nat) (x1 : Int) (x2 : Int) (x3 : Int) (h : Hp) (Q : Int → Hp → Prop) : Prop := ∀ P4 : Int → Int → Hp → Prop, (∀ (x2 : Int) (x3 : Int) (h : Hp), BLp_X12_isApart_4 x0 x1 P4 x2 x3 h Q → P4 x2 x3 h) → P4 x2 x3 h
theorem Lp_X12_isApart_4_ind {x0 : Nat} {x1 : Int} {Q : Int → Hp → Prop} (I : Int → Int → Hp → Prop) (μ : Int → Int → Hp → Nat) (hs : ∀ (P4 : Int → Int → Hp → Prop) (x2 : Int) (x3 : Int) (h : Hp), I x2 x3 h → (∀ (x2' : Int) (x3' : Int) (h' : Hp), I x2' x3' h' → μ x2' x3' h' < μ x2 x3 h → P4 x2' x3' h') → BLp_X12_isApart_4 x0 x1 P4 x2 x3 h Q) : ∀ (x2 : Int) (x3 : Int) (h : Hp), I x2 x3 h → Lp_X12_isApart_4 x0 x1 x2 x3 h Q := by
  intro x2 x3 h hI P4 hP
  have key : ∀ (n : Nat) (x2 : Int) (x3 : Int) (h : Hp), I x2 x3 h → μ x2 x3 h < n → P4 x2 x3 h := by
    intro n
    induction n with
    | zero => intro x2 x3 h _ hl; exact absurd hl (Nat.not_lt_zero _)
    | succ n ih => intro x2 x3 h hi hl; exact hP x2 x3 h (hs P4 x2 x3 h hi (fun x2 x3 h' hi' hl' => ih x2 x3 h' hi' (by omega)))
  exact key _ x2 x3 h hI (Nat.lt_succ_self _)
theorem GLp_X12_isApart_4 (x0 : Nat) (x1 : Int) (x2 : Int) (x3 : Int) (h : Hp) (Q : Int → Hp → Prop) (hV : Lp_X12_isApart_4 x0 x1 x2 x3 h Q) : Go i_X12_isApart 4 [(0, .inr (.inr x0)), (1, .inl x1), (2, .inl x2), (3, .inl x3)] [] h (qI Q) := by
  refine hV (fun x2 x3 h => Go i_X12_isApart 4 [(0, .inr (.inr x0)), (1, .inl x1), (2, .inl x2), (3, .inl x3)] [] h (qI Q)) (fun x2 x3 h hV => ?_)
  unfold BLp_X12_isApart_4 at hV
  have hP4 : ∀ (x2 : Int) (x3 : Int) (h : Hp), Go i_X12_isApart 4 [(0, .inr (.inr x0)), (1, .inl x1), (2, .inl x2), (3, .inl x3)] [] h (qI Q) → Go i_X12_isApart 4 [(0, .inr (.inr x0)), (1, .inl x1), (2, .inl x2), (3, .inl x3)] [] h (qI Q) := fun _ _ h z => z
  refine s_iload_n d_X12_isApart_4 rfl (ma 3 rfl) ?_
  refine s_bipush d_X12_isApart_5 (by decide) (okn rfl) ?_
  refine s_icmp_gt (tgt := 112) d_X12_isApart_7 (by decide) (fun c => ?_) (fun c => ?_)
  · have hV := hV.1 c
    refine s_iload_n d_X12_isApart_112 rfl (ma 2 rfl) ?_
    exact s_iret d_X12_isApart_113 rfl (nar_z hV.1) ⟨_, rfl, hV.2⟩
  · have hV := hV.2 c
    refine s_iload_n d_X12_isApart_10 rfl (ma 2 rfl) ?_
    refine s_if_eq (tgt := 112) d_X12_isApart_11 (by decide) (fun c => ?_) (fun c => ?_)
    · have hV := hV.1 c
      refine s_iload_n d_X12_isApart_112 rfl (ma 2 rfl) ?_
      exact s_iret d_X12_isApart_113 rfl (nar_z hV.1) ⟨_, rfl, hV.2⟩
    · have hV := hV.2 c
      refine s_aload_n d_X12_isApart_14 rfl (ma 0 rfl) ?_
      refine s_iconst d_X12_isApart_15 (okn rfl) ?_
      obtain ⟨o, hV⟩ := hV
      refine f_RX12_254p rfl d_X12_isApart_16 o (fun h1 eh1 => ?_)
      have hV := hV h1 eh1
      refine s_aload_n d_X12_isApart_19 rfl (ma 0 rfl) ?_
      refine s_iconst d_X12_isApart_20 (okn rfl) ?_
      refine s_iload_n d_X12_isApart_21 rfl (ma 1 rfl) ?_
      refine s_iload_n d_X12_isApart_22 rfl (ma 3 rfl) ?_
      obtain ⟨o, hV⟩ := hV
      refine v_RX12_257 rfl (Nat.le_of_ble_eq_true rfl) d_X12_isApart_23 o (Nat.le_of_ble_eq_true rfl) hV (fun h2 hV => ?_)
      refine s_aload_n d_X12_isApart_26 rfl (ma 0 rfl) ?_
      refine s_iload_n d_X12_isApart_27 rfl (ma 1 rfl) ?_
      refine s_aload_n d_X12_isApart_28 rfl (ma 0 rfl) ?_
      obtain ⟨o, hV⟩ := hV
      refine f_RX12_32g rfl d_X12_isApart_29 o ?_
      refine s_iconst d_X12_isApart_32 (okn rfl) ?_
      obtain ⟨o, hV⟩ := hV
      refine s_iald d_X12_isApart_33 o.1 o.2.1 o.2.2 ?_
      refine s_iload_n d_X12_isApart_34 rfl (ma 3 rfl) ?_
      obtain ⟨o, hV⟩ := hV
      refine v_RX12_257 rfl (Nat.le_of_ble_eq_true rfl) d_X12_isApart_35 o (Nat.le_of_ble_eq_true rfl) hV (fun h3 hV => ?_)
      refine s_aload_n d_X12_isApart_38 rfl (ma 0 rfl) ?_
      refine s_iconst d_X12_isApart_39 (okn rfl) ?_
      refine s_iload_n d_X12_isApart_40 rfl (ma 3 rfl) ?_
      obtain ⟨o, hV⟩ := hV
      refine v_RX12_241 rfl (Nat.le_of_ble_eq_true rfl) d_X12_isApart_41 o (Nat.le_of_ble_eq_true rfl) hV (fun h4 hV => ?_)
      refine s_aload_n d_X12_isApart_44 rfl (ma 0 rfl) ?_
      obtain ⟨o, hV⟩ := hV
      refine f_RX12_186g rfl d_X12_isApart_45 o ?_
      refine s_aload_n d_X12_isApart_48 rfl (ma 0 rfl) ?_
      obtain ⟨o, hV⟩ := hV
      refine f_RX12_254g rfl d_X12_isApart_49 o ?_
      refine s_icmp_ne (tgt := 59) d_X12_isApart_52 (by decide) (fun c => ?_) (fun c => ?_)
      · have hV := hV.1 c
        refine s_iconst d_X12_isApart_59 (okn rfl) ?_
        refine s_istore_n (lv' := [(2, .inl 0), (0, .inr (.inr x0)), (1, .inl x1), (3, .inl x3)]) d_X12_isApart_60 rfl (Nat.le_of_ble_eq_true rfl) rfl ?_
        refine s_iconst d_X12_isApart_61 (okn rfl) ?_
        refine s_istore (lv' := [(4, .inl 0), (2, .inl 0), (0, .inr (.inr x0)), (1, .inl x1), (3, .inl x3)]) d_X12_isApart_62 (Nat.le_of_ble_eq_true rfl) rfl ?_
        refine s_pick (lv' := [(0, .inr (.inr x0)), (1, .inl x1), (2, .inl 0), (3, .inl x3), (4, .inl 0)]) [2, 3, 1, 4, 0] rfl ?_
        exact GLp_X12_isApart_64 _ _ _ _ _ _ _ (by intros; apply hP4; assumption) hV
      · have hV := hV.2 c
        refine s_iconst d_X12_isApart_55 (okn rfl) ?_
        refine s_goto (tgt := 60) d_X12_isApart_56 (by decide) ?_
        refine s_istore_n (lv' := [(2, .inl 1), (0, .inr (.inr x0)), (1, .inl x1), (3, .inl x3)]) d_X12_isApart_60 rfl (Nat.le_of_ble_eq_true rfl) rfl ?_
        refine s_iconst d_X12_isApart_61 (okn rfl) ?_
        refine s_istore (lv' := [(4, .inl 0), (2, .inl 1), (0, .inr (.inr x0)), (1, .inl x1), (3, .inl x3)]) d_X12_isApart_62 (Nat.le_of_ble_eq_true rfl) rfl ?_
        refine s_pick (lv' := [(0, .inr (.inr x0)), (1, .inl x1), (2, .inl 1), (3, .inl x3), (4, .inl 0)]) [2, 3, 1, 4, 0] rfl ?_
        exact GLp_X12_isApart_64 _ _ _ _ _ _ _ (by intros; apply hP4; assumption) hV
def V_X12_isApart (x0 : Nat) (x1 : Int) (h : Hp) (Q : Int → Hp → Prop) : Prop :=
  Lp_X12_isApart_4 x0 x1 1 1 h Q
theorem G_X12_isApart {x0 : Nat} {x1 : Int} (h : Hp) (Q : Int → Hp → Prop) (hV : V_X12_isApart x0 x1 h Q) : C_X12_isApart x0 x1 h Q := by
  unfold V_X12_isApart at hV
  show Go i_X12_isApart 0 [(0, .inr (.inr x0)), (1, .inl x1)] [] h (qI Q)
  refine s_iconst d_X12_isApart_0 (okn rfl) ?_
  refine s_istore_n (lv' := [(2, .inl 1), (0, .inr (.inr x0)), (1, .inl x1)]) d_X12_isApart_1 rfl (Nat.le_of_ble_eq_true rfl) rfl ?_
  refine s_iconst d_X12_isApart_2 (okn rfl) ?_
  refine s_istore_n (lv' := [(3, .inl 1), (2, .inl 1), (0, .inr (.inr x0)), (1, .inl x1)]) d_X12_isApart_3 rfl (Nat.le_of_ble_eq_true rfl) rfl ?_
  refine s_pick (lv' := [(0, .inr (.inr x0)), (1, .inl x1), (2, .inl 1), (3, .inl 1)]) [2, 3, 1, 0] rfl ?_
  exact GLp_X12_isApart_4 _ _ _ _ _ _ hV

theorem d_X12_apart_0 : decode i_X12_apart.2.1 0 = .ok (.iload_n 1, 1) := by decide +kernel
theorem d_X12_apart_1 : decode i_X12_apart.2.1 1 = .ok (.iconst 0, 1) := by decide +kernel
theorem d_X12_apart_2 : decode i_X12_apart.2.1 2 = .ok (.iconst 2, 1) := by decide +kernel
theorem d_X12_apart_3 : decode i_X12_apart.2.1 3 = .ok (.invokestatic 90, 3) := by decide +kernel
theorem d_X12_apart_6 : decode i_X12_apart.2.1 6 = .ok (.ifCond .ne 6, 3) := by decide +kernel
theorem d_X12_apart_9 : decode i_X12_apart.2.1 9 = .ok (.ldc 94, 2) := by decide +kernel
theorem d_X12_apart_11 : decode i_X12_apart.2.1 11 = .ok (.ireturn, 1) := by decide +kernel
theorem d_X12_apart_12 : decode i_X12_apart.2.1 12 = .ok (.iconst 0, 1) := by decide +kernel
theorem d_X12_apart_13 : decode i_X12_apart.2.1 13 = .ok (.istore_n 2, 1) := by decide +kernel
theorem d_X12_apart_14 : decode i_X12_apart.2.1 14 = .ok (.iconst (-1), 1) := by decide +kernel
theorem d_X12_apart_15 : decode i_X12_apart.2.1 15 = .ok (.istore_n 3, 1) := by decide +kernel
theorem d_X12_apart_16 : decode i_X12_apart.2.1 16 = .ok (.iconst 0, 1) := by decide +kernel
theorem d_X12_apart_17 : decode i_X12_apart.2.1 17 = .ok (.istore 4, 2) := by decide +kernel
theorem d_X12_apart_19 : decode i_X12_apart.2.1 19 = .ok (.iconst 0, 1) := by decide +kernel
theorem d_X12_apart_20 : decode i_X12_apart.2.1 20 = .ok (.istore 5, 2) := by decide +kernel
theorem d_X12_apart_22 : decode i_X12_apart.2.1 22 = .ok (.iconst 1, 1) := by decide +kernel
theorem d_X12_apart_23 : decode i_X12_apart.2.1 23 = .ok (.istore 6, 2) := by decide +kernel
theorem d_X12_apart_25 : decode i_X12_apart.2.1 25 = .ok (.iload 6, 2) := by decide +kernel
theorem d_X12_apart_27 : decode i_X12_apart.2.1 27 = .ok (.aload_n 0, 1) := by decide +kernel
theorem d_X12_apart_28 : decode i_X12_apart.2.1 28 = .ok (.getfield 32, 3) := by decide +kernel
theorem d_X12_apart_31 : decode i_X12_apart.2.1 31 = .ok (.iconst 0, 1) := by decide +kernel
theorem d_X12_apart_32 : decode i_X12_apart.2.1 32 = .ok (.iaload, 1) := by decide +kernel
theorem d_X12_apart_33 : decode i_X12_apart.2.1 33 = .ok (.if_icmp .ge 59, 3) := by decide +kernel
theorem d_X12_apart_36 : decode i_X12_apart.2.1 36 = .ok (.aload_n 0, 1) := by decide +kernel
theorem d_X12_apart_37 : decode i_X12_apart.2.1 37 = .ok (.iload 6, 2) := by decide +kernel
theorem d_X12_apart_39 : decode i_X12_apart.2.1 39 = .ok (.invokevirtual 260, 3) := by decide +kernel
theorem d_X12_apart_42 : decode i_X12_apart.2.1 42 = .ok (.ifCond .eq 44, 3) := by decide +kernel
theorem d_X12_apart_45 : decode i_X12_apart.2.1 45 = .ok (.iinc 2 1, 3) := by decide +kernel
theorem d_X12_apart_48 : decode i_X12_apart.2.1 48 = .ok (.iload_n 3, 1) := by decide +kernel
theorem d_X12_apart_49 : decode i_X12_apart.2.1 49 = .ok (.iconst (-1), 1) := by decide +kernel
theorem d_X12_apart_50 : decode i_X12_apart.2.1 50 = .ok (.if_icmp .ne 8, 3) := by decide +kernel
theorem d_X12_apart_53 : decode i_X12_apart.2.1 53 = .ok (.iload 6, 2) := by decide +kernel
theorem d_X12_apart_55 : decode i_X12_apart.2.1 55 = .ok (.goto 4, 3) := by decide +kernel
theorem d_X12_apart_58 : decode i_X12_apart.2.1 58 = .ok (.iload_n 3, 1) := by decide +kernel
theorem d_X12_apart_59 : decode i_X12_apart.2.1 59 = .ok (.istore_n 3, 1) := by decide +kernel
theorem d_X12_apart_60 : decode i_X12_apart.2.1 60 = .ok (.iload 6, 2) := by decide +kernel
theorem d_X12_apart_62 : decode i_X12_apart.2.1 62 = .ok (.iload 4, 2) := by decide +kernel
theorem d_X12_apart_64 : decode i_X12_apart.2.1 64 = .ok (.isub, 1) := by decide +kernel
theorem d_X12_apart_65 : decode i_X12_apart.2.1 65 = .ok (.iload 5, 2) := by decide +kernel
theorem d_X12_apart_67 : decode i_X12_apart.2.1 67 = .ok (.if_icmp .le 11, 3) := by decide +kernel
theorem d_X12_apart_70 : decode i_X12_apart.2.1 70 = .ok (.iload 6, 2) := by decide +kernel
theorem d_X12_apart_72 : decode i_X12_apart.2.1 72 = .ok (.iload 4, 2) := by decide +kernel
theorem d_X12_apart_74 : decode i_X12_apart.2.1 74 = .ok (.isub, 1) := by decide +kernel
theorem d_X12_apart_75 : decode i_X12_apart.2.1 75 = .ok (.goto 5, 3) := by decide +kernel
theorem d_X12_apart_78 : decode i_X12_apart.2.1 78 = .ok (.iload 5, 2) := by decide +kernel
theorem d_X12_apart_80 : decode i_X12_apart.2.1 80 = .ok (.istore 5, 2) := by decide +kernel
theorem d_X12_apart_82 : decode i_X12_apart.2.1 82 = .ok (.iload 6, 2) := by decide +kernel
theorem d_X12_apart_84 : decode i_X12_apart.2.1 84 = .ok (.istore 4, 2) := by decide +kernel
theorem d_X12_apart_86 : decode i_X12_apart.2.1 86 = .ok (.iinc 6 1, 3) := by decide +kernel
theorem d_X12_apart_89 : decode i_X12_apart.2.1 89 = .ok (.goto (-64), 3) := by decide +kernel
theorem d_X12_apart_92 : decode i_X12_apart.2.1 92 = .ok (.aload_n 0, 1) := by decide +kernel
theorem d_X12_apart_93 : decode i_X12_apart.2.1 93 = .ok (.getfield 32, 3) := by decide +kernel
theorem d_X12_apart_96 : decode i_X12_apart.2.1 96 = .ok (.iconst 0, 1) := by decide +kernel
theorem d_X12_apart_97 : decode i_X12_apart.2.1 97 = .ok (.iaload, 1) := by decide +kernel
theorem d_X12_apart_98 : decode i_X12_apart.2.1 98 = .ok (.iload 4, 2) := by decide +kernel
theorem d_X12_apart_100 : decode i_X12_apart.2.1 100 = .ok (.isub, 1) := by decide +kernel
theorem d_X12_apart_101 : decode i_X12_apart.2.1 101 = .ok (.iload 5, 2) := by decide +kernel
theorem d_X12_apart_103 : decode i_X12_apart.2.1 103 = .ok (.if_icmp .le 15, 3) := by decide +kernel
theorem d_X12_apart_106 : decode i_X12_apart.2.1 106 = .ok (.aload_n 0, 1) := by decide +kernel
theorem d_X12_apart_107 : decode i_X12_apart.2.1 107 = .ok (.getfield 32, 3) := by decide +kernel
theorem d_X12_apart_110 : decode i_X12_apart.2.1 110 = .ok (.iconst 0, 1) := by decide +kernel
theorem d_X12_apart_111 : decode i_X12_apart.2.1 111 = .ok (.iaload, 1) := by decide +kernel
theorem d_X12_apart_112 : decode i_X12_apart.2.1 112 = .ok (.iload 4, 2) := by decide +kernel
theorem d_X12_apart_114 : decode i_X12_apart.2.1 114 = .ok (.isub, 1) := by decide +kernel
theorem d_X12_apart_115 : decode i_X12_apart.2.1 115 = .ok (.goto 5, 3) := by decide +kernel
theorem d_X12_apart_118 : decode i_X12_apart.2.1 118 = .ok (.iload 5, 2) := by decide +kernel
theorem d_X12_apart_120 : decode i_X12_apart.2.1 120 = .ok (.istore 5, 2) := by decide +kernel
theorem d_X12_apart_122 : decode i_X12_apart.2.1 122 = .ok (.iload_n 1, 1) := by decide +kernel
theorem d_X12_apart_123 : decode i_X12_apart.2.1 123 = .ok (.ifCond .ne 7, 3) := by decide +kernel
theorem d_X12_apart_126 : decode i_X12_apart.2.1 126 = .ok (.iload_n 2, 1) := by decide +kernel
theorem d_X12_apart_127 : decode i_X12_apart.2.1 127 = .ok (.goto 14, 3) := by decide +kernel
theorem d_X12_apart_130 : decode i_X12_apart.2.1 130 = .ok (.iload_n 1, 1) := by decide +kernel
theorem d_X12_apart_131 : decode i_X12_apart.2.1 131 = .ok (.iconst 1, 1) := by decide +kernel
theorem d_X12_apart_132 : decode i_X12_apart.2.1 132 = .ok (.if_icmp .ne 7, 3) := by decide +kernel
theorem d_X12_apart_135 : decode i_X12_apart.2.1 135 = .ok (.iload_n 3, 1) := by decide +kernel
theorem d_X12_apart_136 : decode i_X12_apart.2.1 136 = .ok (.goto 5, 3) := by decide +kernel
theorem d_X12_apart_139 : decode i_X12_apart.2.1 139 = .ok (.iload 5, 2) := by decide +kernel
theorem d_X12_apart_141 : decode i_X12_apart.2.1 141 = .ok (.ireturn, 1) := by decide +kernel
def J_X12_apart_120 (x1 : Int) (x2 : Int) (x3 : Int) (y0 : Int) (h : Hp) (Q : Int → Hp → Prop) : Prop :=
  (x1 ≠ 0 → ((x1 ≠ 1 → (Q y0 h)) ∧ (x1 = 1 → (Q x3 h)))) ∧ (x1 = 0 → (Q x2 h))
theorem GJ_X12_apart_120 (x1 : Int) (x2 : Int) (x3 : Int) (y0 : Int) (h : Hp) (Q : Int → Hp → Prop) (hV : J_X12_apart_120 x1 x2 x3 y0 h Q) : Go i_X12_apart 120 [(1, .inl x1), (2, .inl x2), (3, .inl x3)] [.inl y0] h (qI Q) := by
  unfold J_X12_apart_120 at hV
  refine s_istore (lv' := [(5, .inl y0), (1, .inl x1), (2, .inl x2), (3, .inl x3)]) d_X12_apart_120 (Nat.le_of_ble_eq_true rfl) rfl ?_
  refine s_iload_n d_X12_apart_122 rfl (ma 1 rfl) ?_
  refine s_if_ne (tgt := 130) d_X12_apart_123 (by decide) (fun c => ?_) (fun c => ?_)
  · have hV := hV.1 c
    refine s_iload_n d_X12_apart_130 rfl (ma 1 rfl) ?_
    refine s_iconst d_X12_apart_131 (okn rfl) ?_
    refine s_icmp_ne (tgt := 139) d_X12_apart_132 (by decide) (fun c => ?_) (fun c => ?_)
    · have hV := hV.1 c
      refine s_iload d_X12_apart_139 (ma 0 rfl) ?_
      exact s_iret d_X12_apart_141 rfl rfl ⟨_, rfl, hV⟩
    · have hV := hV.2 c
      refine s_iload_n d_X12_apart_135 rfl (ma 3 rfl) ?_
      refine s_goto (tgt := 141) d_X12_apart_136 (by decide) ?_
      exact s_iret d_X12_apart_141 rfl rfl ⟨_, rfl, hV⟩
  · have hV := hV.2 c
    refine s_iload_n d_X12_apart_126 rfl (ma 2 rfl) ?_
    refine s_goto (tgt := 141) d_X12_apart_127 (by decide) ?_
    exact s_iret d_X12_apart_141 rfl rfl ⟨_, rfl, hV⟩
def J_X12_apart_59 (P25 : Int → Int → Int → Int → Int → Hp → Prop) (x0 : Nat) (x1 : Int) (x2 : Int) (x4 : Int) (x5 : Int) (x6 : Int) (y0 : Int) (h : Hp) (Q : Int → Hp → Prop) : Prop :=
  ((-2147483648 : Int) ≤ x6 - x4 ∧ x6 - x4 ≤ (2147483647 : Int)) ∧ ((x6 - x4 ≤ x5 → (((-2147483648 : Int) ≤ x6 + 1 ∧ x6 + 1 ≤ (2147483647 : Int)) ∧ (P25 x2 y0 x6 x5 (x6 + 1) h))) ∧ (¬ x6 - x4 ≤ x5 → (((-2147483648 : Int) ≤ x6 - x4 ∧ x6 - x4 ≤ (2147483647 : Int)) ∧ (∀ x5_1 : Int, x5_1 = x6 - x4 → (((-2147483648 : Int) ≤ x6 + 1 ∧ x6 + 1 ≤ (2147483647 : Int)) ∧ (P25 x2 y0 x6 x5_1 (x6 + 1) h))))))
theorem GJ_X12_apart_59 {P25 : Int → Int → Int → Int → Int → Hp → Prop} (x0 : Nat) (x1 : Int) (x2 : Int) (x4 : Int) (x5 : Int) (x6 : Int) (y0 : Int) (h : Hp) (Q : Int → Hp → Prop) (hP25 : ∀ (m2 : Int) (m3 : Int) (m4 : Int) (m5 : Int) (m6 : Int) (h : Hp), P25 m2 m3 m4 m5 m6 h → Go i_X12_apart 25 [(0, .inr (.inr x0)), (1, .inl x1), (2, .inl m2), (3, .inl m3), (4, .inl m4), (5, .inl m5), (6, .inl m6)] [] h (qI Q)) (hV : J_X12_apart_59 P25 x0 x1 x2 x4 x5 x6 y0 h Q) : Go i_X12_apart 59 [(0, .inr (.inr x0)), (1, .inl x1), (2, .inl x2), (4, .inl x4), (5, .inl x5), (6, .inl x6)] [.inl y0] h (qI Q) := by
  unfold J_X12_apart_59 at hV
  refine s_istore_n (lv' := [(3, .inl y0), (0, .inr (.inr x0)), (1, .inl x1), (2, .inl x2), (4, .inl x4), (5, .inl x5), (6, .inl x6)]) d_X12_apart_59 rfl (Nat.le_of_ble_eq_true rfl) rfl ?_
  refine s_iload d_X12_apart_60 (ma 6 rfl) ?_
  refine s_iload d_X12_apart_62 (ma 4 rfl) ?_
  obtain ⟨o, hV⟩ := hV
  refine s_isub d_X12_apart_64 o ?_
  refine s_iload d_X12_apart_65 (ma 5 rfl) ?_
  refine s_icmp_le (tgt := 78) d_X12_apart_67 (by decide) (fun c => ?_) (fun c => ?_)
  · have hV := hV.1 c
    refine s_iload d_X12_apart_78 (ma 5 rfl) ?_
    refine s_istore (lv' := [(5, .inl x5), (3, .inl y0), (0, .inr (.inr x0)), (1, .inl x1), (2, .inl x2), (4, .inl x4), (6, .inl x6)]) d_X12_apart_80 (Nat.le_of_ble_eq_true rfl) rfl ?_
    refine s_iload d_X12_apart_82 (ma 6 rfl) ?_
    refine s_istore (lv' := [(4, .inl x6), (5, .inl x5), (3, .inl y0), (0, .inr (.inr x0)), (1, .inl x1), (2, .inl x2), (6, .inl x6)]) d_X12_apart_84 (Nat.le_of_ble_eq_true rfl) rfl ?_
    obtain ⟨o, hV⟩ := hV
    refine s_iinc (lv' := [(6, .inl (x6 + 1)), (4, .inl x6), (5, .inl x5), (3, .inl y0), (0, .inr (.inr x0)), (1, .inl x1), (2, .inl x2)]) d_X12_apart_86 (ma 6 rfl) o (Nat.le_of_ble_eq_true rfl) rfl ?_
    refine s_goto (tgt := 25) d_X12_apart_89 (by decide) ?_
    refine s_pick (lv' := [(0, .inr (.inr x0)), (1, .inl x1), (2, .inl x2), (3, .inl y0), (4, .inl x6), (5, .inl x5), (6, .inl (x6 + 1))]) [4, 5, 6, 3, 1, 2, 0] rfl ?_
    exact hP25 _ _ _ _ _ _ hV
  · have hV := hV.2 c
    refine s_iload d_X12_apart_70 (ma 6 rfl) ?_
    refine s_iload d_X12_apart_72 (ma 4 rfl) ?_
    obtain ⟨o, hV⟩ := hV
    refine s_isub d_X12_apart_74 o ?_
    refine s_goto (tgt := 80) d_X12_apart_75 (by decide) ?_
    refine s_nmI (fun x5_1 ex5_1 => ?_)
    have hV := hV x5_1 ex5_1
    refine s_istore (lv' := [(5, .inl x5_1), (3, .inl y0), (0, .inr (.inr x0)), (1, .inl x1), (2, .inl x2), (4, .inl x4), (6, .inl x6)]) d_X12_apart_80 (Nat.le_of_ble_eq_true rfl) rfl ?_
    refine s_iload d_X12_apart_82 (ma 6 rfl) ?_
    refine s_istore (lv' := [(4, .inl x6), (5, .inl x5_1), (3, .inl y0), (0, .inr (.inr x0)), (1, .inl x1), (2, .inl x2), (6, .inl x6)]) d_X12_apart_84 (Nat.le_of_ble_eq_true rfl) rfl ?_
    obtain ⟨o, hV⟩ := hV
    refine s_iinc (lv' := [(6, .inl (x6 + 1)), (4, .inl x6), (5, .inl x5_1), (3, .inl y0), (0, .inr (.inr x0)), (1, .inl x1), (2, .inl x2)]) d_X12_apart_86 (ma 6 rfl) o (Nat.le_of_ble_eq_true rfl) rfl ?_
    refine s_goto (tgt := 25) d_X12_apart_89 (by decide) ?_
    refine s_pick (lv' := [(0, .inr (.inr x0)), (1, .inl x1), (2, .inl x2), (3, .inl y0), (4, .inl x6), (5, .inl x5_1), (6, .inl (x6 + 1))]) [4, 5, 6, 3, 1, 2, 0] rfl ?_
    exact hP25 _ _ _ _ _ _ hV
def BLp_X12_apart_25 (x0 : Nat) (x1 : Int) (P25 : Int → Int → Int → Int → Int → Hp → Prop) (x2 : Int) (x3 : Int) (x4 : Int) (x5 : Int) (x6 : Int) (h : Hp) (Q : Int → Hp → Prop) : Prop :=
  hK h x0 = 11 ∧ ((hK h (hR h x0 14) = 12 ∧ (0 : Int) ≤ 0 ∧ 0 < hL h (hR h x0 14)) ∧ ((hI h (hR h x0 14) 0 ≤ x6 → (hK h x0 = 11 ∧ ((hK h (hR h x0 14) = 12 ∧ (0 : Int) ≤ 0 ∧ 0 < hL h (hR h x0 14)) ∧ (((-2147483648 : Int) ≤ (hI h (hR h x0 14) 0) - x4 ∧ (hI h (hR h x0 14) 0) - x4 ≤ (2147483647 : Int)) ∧ (((hI h (hR h x0 14) 0) - x4 ≤ x5 → (J_X12_apart_120 x1 x2 x3 x5 h Q)) ∧ (¬ (hI h (hR h x0 14) 0) - x4 ≤ x5 → (hK h x0 = 11 ∧ ((hK h (hR h x0 14) = 12 ∧ (0 : Int) ≤ 0 ∧ 0 < hL h (hR h x0 14)) ∧ (((-2147483648 : Int) ≤ (hI h (hR h x0 14) 0) - x4 ∧ (hI h (hR h x0 14) 0) - x4 ≤ (2147483647 : Int)) ∧ (J_X12_apart_120 x1 x2 x3 ((hI h (hR h x0 14) 0) - x4) h Q)))))))))) ∧ (¬ hI h (hR h x0 14) 0 ≤ x6 → (hK h x0 = 11 ∧ C_X12_isApart x0 x6 h (fun r2 h1 => ((r2 = 0 → (((-2147483648 : Int) ≤ x6 + 1 ∧ x6 + 1 ≤ (2147483647 : Int)) ∧ (P25 x2 x3 x4 x5 (x6 + 1) h1))) ∧ (¬ r2 = 0 → (((-2147483648 : Int) ≤ x2 + 1 ∧ x2 + 1 ≤ (2147483647 : Int)) ∧ ((x3 ≠ (-1) → (J_X12_apart_59 P25 x0 x1 (x2 + 1) x4 x5 x6 x3 h1 Q)) ∧ (x3 = (-1) → (J_X12_apart_59 P25 x0 x1 (x2 + 1) x4 x5 x6 x6 h1 Q)))))))))))
def Lp_X12_apart_25 (x0 : Nat) (x1 : Int) (x2 : Int) (x3 : Int) (x4 : Int) (x5 : Int) (x6 : Int) (h : Hp) (Q : Int → Hp → Prop) : Prop := ∀ P25 : Int → Int → Int → Int → Int → Hp → Prop, (∀ (x2 : Int) (x3 : Int) (x4 : Int) (x5 : Int) (x6 : Int) (h : Hp), BLp_X12_apart_25 x0 x1 P25 x2 x3 x4 x5 x6 h Q → P25 x2 x3 x4 x5 x6 h) → P25 x2 x3 x4 x5 x6 h
theorem Lp_X12_apart_25_ind {x0 : Nat} {x1 : Int} {Q : Int → Hp → Prop} (I : Int → Int → Int → Int → Int → Hp → Prop) (μ : Int → Int → Int → Int → Int → Hp → Nat) (hs : ∀ (P25 : Int → Int → Int → Int → Int → Hp → Prop) (x2 : Int) (x3 : Int) (x4 : Int) (x5 : Int) (x6 : Int) (h : Hp), I x2 x3 x4 x5 x6 h → (∀ (x2' : Int) (x3' : Int) (x4' : Int) (x5' : Int) (x6' : Int) (h' : Hp), I x2' x3' x4' x5' x6' h' → μ x2' x3' x4' x5' x6' h' < μ x2 x3 x4 x5 x6 h → P25 x2' x3' x4' x5' x6' h') → BLp_X12_apart_25 x0 x1 P25 x2 x3 x4 x5 x6 h Q) : ∀ (x2 : Int) (x3 : Int) (x4 : Int) (x5 : Int) (x6 : Int) (h : Hp), I x2 x3 x4 x5 x6 h → Lp_X12_apart_25 x0 x1 x2 x3 x4 x5 x6 h Q := by
  intro x2 x3 x4 x5 x6 h hI P25 hP
  have key : ∀ (n : Nat) (x2 : Int) (x3 : Int) (x4 : Int) (x5 : Int) (x6 : Int) (h : Hp), I x2 x3 x4 x5 x6 h → μ x2 x3 x4 x5 x6 h < n → P25 x2 x3 x4 x5 x6 h := by
    intro n
    induction n with
    | zero => intro x2 x3 x4 x5 x6 h _ hl; exact absurd hl (Nat.not_lt_zero _)
    | succ n ih => intro x2 x3 x4 x5 x6 h hi hl; exact hP x2 x3 x4 x5 x6 h (hs P25 x2 x3 x4 x5 x6 h hi (fun x2 x3 x4 x5 x6 h' hi' hl' => ih x2 x3 x4 x5 x6 h' hi' (by omega)))
  exact key _ x2 x3 x4 x5 x6 h hI (Nat.lt_succ_self _)
theorem GLp_X12_apart_25 (x0 : Nat) (x1 : Int) (x2 : Int) (x3 : Int) (x4 : Int) (x5 : Int) (x6 : Int) (h : Hp) (Q : Int → Hp → Prop) (hV : Lp_X12_apart_25 x0 x1 x2 x3 x4 x5 x6 h Q) : Go i_X12_apart 25 [(0, .inr (.inr x0)), (1, .inl x1), (2, .inl x2), (3, .inl x3), (4, .inl x4), (5, .inl x5), (6, .inl x6)] [] h (qI Q) := by
  refine hV (fun x2 x3 x4 x5 x6 h => Go i_X12_apart 25 [(0, .inr (.inr x0)), (1, .inl x1), (2, .inl x2), (3, .inl x3), (4, .inl x4), (5, .inl x5), (6, .inl x6)] [] h (qI Q)) (fun x2 x3 x4 x5 x6 h hV => ?_)
  unfold BLp_X12_apart_25 at hV
  have hP25 : ∀ (x2 : Int) (x3 : Int) (x4 : Int) (x5 : Int) (x6 : Int) (h : Hp), Go i_X12_apart 25 [(0, .inr (.inr x0)), (1, .inl x1), (2, .inl x2), (3, .inl x3), (4, .inl x4), (5, .inl x5), (6, .inl x6)] [] h (qI Q) → Go i_X12_apart 25 [(0, .inr (.inr x0)), (1, .inl x1), (2, .inl x2), (3, .inl x3), (4, .inl x4), (5, .inl x5), (6, .inl x6)] [] h (qI Q) := fun _ _ _ _ _ h z => z
  refine s_iload d_X12_apart_25 (ma 6 rfl) ?_
  refine s_aload_n d_X12_apart_27 rfl (ma 0 rfl) ?_
  obtain ⟨o, hV⟩ := hV
  refine f_RX12_32g rfl d_X12_apart_28 o ?_
  refine s_iconst d_X12_apart_31 (okn rfl) ?_
  obtain ⟨o, hV⟩ := hV
  refine s_iald d_X12_apart_32 o.1 o.2.1 o.2.2 ?_
  refine s_icmp_ge (tgt := 92) d_X12_apart_33 (by decide) (fun c => ?_) (fun c => ?_)
  · have hV := hV.1 c
    refine s_aload_n d_X12_apart_92 rfl (ma 0 rfl) ?_
    obtain ⟨o, hV⟩ := hV
    refine f_RX12_32g rfl d_X12_apart_93 o ?_
    refine s_iconst d_X12_apart_96 (okn rfl) ?_
    obtain ⟨o, hV⟩ := hV
    refine s_iald d_X12_apart_97 o.1 o.2.1 o.2.2 ?_
    refine s_iload d_X12_apart_98 (ma 4 rfl) ?_
    obtain ⟨o, hV⟩ := hV
    refine s_isub d_X12_apart_100 o ?_
    refine s_iload d_X12_apart_101 (ma 5 rfl) ?_
    refine s_icmp_le (tgt := 118) d_X12_apart_103 (by decide) (fun c => ?_) (fun c => ?_)
    · have hV := hV.1 c
      refine s_iload d_X12_apart_118 (ma 5 rfl) ?_
      refine s_pick (lv' := [(1, .inl x1), (2, .inl x2), (3, .inl x3)]) [1, 2, 3] rfl ?_
      exact GJ_X12_apart_120 _ _ _ _ _ _ hV
    · have hV := hV.2 c
      refine s_aload_n d_X12_apart_106 rfl (ma 0 rfl) ?_
      obtain ⟨o, hV⟩ := hV
      refine f_RX12_32g rfl d_X12_apart_107 o ?_
      refine s_iconst d_X12_apart_110 (okn rfl) ?_
      obtain ⟨o, hV⟩ := hV
      refine s_iald d_X12_apart_111 o.1 o.2.1 o.2.2 ?_
      refine s_iload d_X12_apart_112 (ma 4 rfl) ?_
      obtain ⟨o, hV⟩ := hV
      refine s_isub d_X12_apart_114 o ?_
      refine s_goto (tgt := 120) d_X12_apart_115 (by decide) ?_
      refine s_pick (lv' := [(1, .inl x1), (2, .inl x2), (3, .inl x3)]) [1, 2, 3] rfl ?_
      exact GJ_X12_apart_120 _ _ _ _ _ _ hV
  · have hV := hV.2 c
    refine s_aload_n d_X12_apart_36 rfl (ma 0 rfl) ?_
    refine s_iload d_X12_apart_37 (ma 6 rfl) ?_
    obtain ⟨o, hV⟩ := hV
    refine v_RX12_260 rfl (Nat.le_of_ble_eq_true rfl) d_X12_apart_39 o (Nat.le_of_ble_eq_true rfl) hV (fun r2 h1 hV => ?_)
    refine s_if_eq (tgt := 86) d_X12_apart_42 (by decide) (fun c => ?_) (fun c => ?_)
    · have hV := hV.1 c
      obtain ⟨o, hV⟩ := hV
      refine s_iinc (lv' := [(6, .inl (x6 + 1)), (0, .inr (.inr x0)), (1, .inl x1), (2, .inl x2), (3, .inl x3), (4, .inl x4), (5, .inl x5)]) d_X12_apart_86 (ma 6 rfl) o (Nat.le_of_ble_eq_true rfl) rfl ?_
      refine s_goto (tgt := 25) d_X12_apart_89 (by decide) ?_
      refine s_pick (lv' := [(0, .inr (.inr x0)), (1, .inl x1), (2, .inl x2), (3, .inl x3), (4, .inl x4), (5, .inl x5), (6, .inl (x6 + 1))]) [1, 2, 3, 4, 5, 6, 0] rfl ?_
      exact hP25 _ _ _ _ _ _ hV
    · have hV := hV.2 c
      obtain ⟨o, hV⟩ := hV
      refine s_iinc (lv' := [(2, .inl (x2 + 1)), (0, .inr (.inr x0)), (1, .inl x1), (3, .inl x3), (4, .inl x4), (5, .inl x5), (6, .inl x6)]) d_X12_apart_45 (ma 2 rfl) o (Nat.le_of_ble_eq_true rfl) rfl ?_
      refine s_iload_n d_X12_apart_48 rfl (ma 3 rfl) ?_
      refine s_iconst d_X12_apart_49 (okn rfl) ?_
      refine s_icmp_ne (tgt := 58) d_X12_apart_50 (by decide) (fun c => ?_) (fun c => ?_)
      · have hV := hV.1 c
        refine s_iload_n d_X12_apart_58 rfl (ma 3 rfl) ?_
        refine s_pick (lv' := [(0, .inr (.inr x0)), (1, .inl x1), (2, .inl (x2 + 1)), (4, .inl x4), (5, .inl x5), (6, .inl x6)]) [1, 2, 0, 4, 5, 6] rfl ?_
        exact GJ_X12_apart_59 _ _ _ _ _ _ _ _ _ (by intros; apply hP25; assumption) hV
      · have hV := hV.2 c
        refine s_iload d_X12_apart_53 (ma 6 rfl) ?_
        refine s_goto (tgt := 59) d_X12_apart_55 (by decide) ?_
        refine s_pick (lv' := [(0, .inr (.inr x0)), (1, .inl x1), (2, .inl (x2 + 1)), (4, .inl x4), (5, .inl x5), (6, .inl x6)]) [1, 2, 0, 4, 5, 6] rfl ?_
        exact GJ_X12_apart_59 _ _ _ _ _ _ _ _ _ (by intros; apply hP25; assumption) hV
def V_X12_apart (x0 : Nat) (x1 : Int) (h : Hp) (Q : Int → Hp → Prop) : Prop :=
  C_X12_is x1 0 2 h (fun r2 h1 => ((r2 ≠ 0 → (Lp_X12_apart_25 x0 x1 0 (-1) 0 0 1 h1 Q)) ∧ (r2 = 0 → (Q (-1000000002) h1))))
theorem G_X12_apart {x0 : Nat} {x1 : Int} (h : Hp) (Q : Int → Hp → Prop) (hV : V_X12_apart x0 x1 h Q) : C_X12_apart x0 x1 h Q := by
  unfold V_X12_apart at hV
  show Go i_X12_apart 0 [(0, .inr (.inr x0)), (1, .inl x1)] [] h (qI Q)
  refine s_iload_n d_X12_apart_0 rfl (ma 1 rfl) ?_
  refine s_iconst d_X12_apart_1 (okn rfl) ?_
  refine s_iconst d_X12_apart_2 (okn rfl) ?_
  refine v_RX12_90 rfl (Nat.le_of_ble_eq_true rfl) d_X12_apart_3 (Nat.le_of_ble_eq_true rfl) hV (fun r2 h1 hV => ?_)
  refine s_if_ne (tgt := 12) d_X12_apart_6 (by decide) (fun c => ?_) (fun c => ?_)
  · have hV := hV.1 c
    refine s_iconst d_X12_apart_12 (okn rfl) ?_
    refine s_istore_n (lv' := [(2, .inl 0), (0, .inr (.inr x0)), (1, .inl x1)]) d_X12_apart_13 rfl (Nat.le_of_ble_eq_true rfl) rfl ?_
    refine s_iconst d_X12_apart_14 (okn rfl) ?_
    refine s_istore_n (lv' := [(3, .inl (-1)), (2, .inl 0), (0, .inr (.inr x0)), (1, .inl x1)]) d_X12_apart_15 rfl (Nat.le_of_ble_eq_true rfl) rfl ?_
    refine s_iconst d_X12_apart_16 (okn rfl) ?_
    refine s_istore (lv' := [(4, .inl 0), (3, .inl (-1)), (2, .inl 0), (0, .inr (.inr x0)), (1, .inl x1)]) d_X12_apart_17 (Nat.le_of_ble_eq_true rfl) rfl ?_
    refine s_iconst d_X12_apart_19 (okn rfl) ?_
    refine s_istore (lv' := [(5, .inl 0), (4, .inl 0), (3, .inl (-1)), (2, .inl 0), (0, .inr (.inr x0)), (1, .inl x1)]) d_X12_apart_20 (Nat.le_of_ble_eq_true rfl) rfl ?_
    refine s_iconst d_X12_apart_22 (okn rfl) ?_
    refine s_istore (lv' := [(6, .inl 1), (5, .inl 0), (4, .inl 0), (3, .inl (-1)), (2, .inl 0), (0, .inr (.inr x0)), (1, .inl x1)]) d_X12_apart_23 (Nat.le_of_ble_eq_true rfl) rfl ?_
    refine s_pick (lv' := [(0, .inr (.inr x0)), (1, .inl x1), (2, .inl 0), (3, .inl (-1)), (4, .inl 0), (5, .inl 0), (6, .inl 1)]) [5, 6, 4, 3, 2, 1, 0] rfl ?_
    exact GLp_X12_apart_25 _ _ _ _ _ _ _ _ _ hV
  · have hV := hV.2 c
    refine s_ldc (n := (-1000000002)) d_X12_apart_9 k_RX12_94 (by decide) (okn rfl) ?_
    exact s_iret d_X12_apart_11 rfl rfl ⟨_, rfl, hV⟩

theorem d_X12_isItself_0 : decode i_X12_isItself.2.1 0 = .ok (.aload_n 0, 1) := by decide +kernel
theorem d_X12_isItself_1 : decode i_X12_isItself.2.1 1 = .ok (.getfield 113, 3) := by decide +kernel
theorem d_X12_isItself_4 : decode i_X12_isItself.2.1 4 = .ok (.aload_n 0, 1) := by decide +kernel
theorem d_X12_isItself_5 : decode i_X12_isItself.2.1 5 = .ok (.getfield 186, 3) := by decide +kernel
theorem d_X12_isItself_8 : decode i_X12_isItself.2.1 8 = .ok (.if_icmp .ne 7, 3) := by decide +kernel
theorem d_X12_isItself_11 : decode i_X12_isItself.2.1 11 = .ok (.iconst 1, 1) := by decide +kernel
theorem d_X12_isItself_12 : decode i_X12_isItself.2.1 12 = .ok (.goto 4, 3) := by decide +kernel
theorem d_X12_isItself_15 : decode i_X12_isItself.2.1 15 = .ok (.iconst 0, 1) := by decide +kernel
theorem d_X12_isItself_16 : decode i_X12_isItself.2.1 16 = .ok (.istore_n 1, 1) := by decide +kernel
theorem d_X12_isItself_17 : decode i_X12_isItself.2.1 17 = .ok (.iconst 0, 1) := by decide +kernel
theorem d_X12_isItself_18 : decode i_X12_isItself.2.1 18 = .ok (.istore_n 2, 1) := by decide +kernel
theorem d_X12_isItself_19 : decode i_X12_isItself.2.1 19 = .ok (.iload_n 2, 1) := by decide +kernel
theorem d_X12_isItself_20 : decode i_X12_isItself.2.1 20 = .ok (.aload_n 0, 1) := by decide +kernel
theorem d_X12_isItself_21 : decode i_X12_isItself.2.1 21 = .ok (.getfield 186, 3) := by decide +kernel
theorem d_X12_isItself_24 : decode i_X12_isItself.2.1 24 = .ok (.if_icmp .ge 34, 3) := by decide +kernel
theorem d_X12_isItself_27 : decode i_X12_isItself.2.1 27 = .ok (.iload_n 1, 1) := by decide +kernel
theorem d_X12_isItself_28 : decode i_X12_isItself.2.1 28 = .ok (.ifCond .eq 30, 3) := by decide +kernel
theorem d_X12_isItself_31 : decode i_X12_isItself.2.1 31 = .ok (.aload_n 0, 1) := by decide +kernel
theorem d_X12_isItself_32 : decode i_X12_isItself.2.1 32 = .ok (.getfield 66, 3) := by decide +kernel
theorem d_X12_isItself_35 : decode i_X12_isItself.2.1 35 = .ok (.iload_n 2, 1) := by decide +kernel
theorem d_X12_isItself_36 : decode i_X12_isItself.2.1 36 = .ok (.iaload, 1) := by decide +kernel
theorem d_X12_isItself_37 : decode i_X12_isItself.2.1 37 = .ok (.aload_n 0, 1) := by decide +kernel
theorem d_X12_isItself_38 : decode i_X12_isItself.2.1 38 = .ok (.getfield 63, 3) := by decide +kernel
theorem d_X12_isItself_41 : decode i_X12_isItself.2.1 41 = .ok (.iload_n 2, 1) := by decide +kernel
theorem d_X12_isItself_42 : decode i_X12_isItself.2.1 42 = .ok (.iaload, 1) := by decide +kernel
theorem d_X12_isItself_43 : decode i_X12_isItself.2.1 43 = .ok (.if_icmp .ne 7, 3) := by decide +kernel
theorem d_X12_isItself_46 : decode i_X12_isItself.2.1 46 = .ok (.iconst 1, 1) := by decide +kernel
theorem d_X12_isItself_47 : decode i_X12_isItself.2.1 47 = .ok (.goto 4, 3) := by decide +kernel
theorem d_X12_isItself_50 : decode i_X12_isItself.2.1 50 = .ok (.iconst 0, 1) := by decide +kernel
theorem d_X12_isItself_51 : decode i_X12_isItself.2.1 51 = .ok (.istore_n 1, 1) := by decide +kernel
theorem d_X12_isItself_52 : decode i_X12_isItself.2.1 52 = .ok (.iinc 2 1, 3) := by decide +kernel
theorem d_X12_isItself_55 : decode i_X12_isItself.2.1 55 = .ok (.goto (-36), 3) := by decide +kernel
theorem d_X12_isItself_58 : decode i_X12_isItself.2.1 58 = .ok (.iload_n 1, 1) := by decide +kernel
theorem d_X12_isItself_59 : decode i_X12_isItself.2.1 59 = .ok (.ireturn, 1) := by decide +kernel
def BLp_X12_isItself_19 (x0 : Nat) (P19 : Int → Int → Hp → Prop) (x1 : Int) (x2 : Int) (h : Hp) (Q : Int → Hp → Prop) : Prop :=
  hK h x0 = 11 ∧ ((hI h x0 29 ≤ x2 → (((x1 : Int) = 0 ∨ (x1 : Int) = 1) ∧ Q x1 h)) ∧ (¬ hI h x0 29 ≤ x2 → ((x1 = 0 → (((x1 : Int) = 0 ∨ (x1 : Int) = 1) ∧ Q x1 h)) ∧ (¬ x1 = 0 → (hK h x0 = 11 ∧ ((hK h (hR h x0 30) = 12 ∧ (0 : Int) ≤ x2 ∧ x2 < hL h (hR h x0 30)) ∧ (hK h x0 = 11 ∧ ((hK h (hR h x0 28) = 12 ∧ (0 : Int) ≤ x2 ∧ x2 < hL h (hR h x0 28)) ∧ ((hI h (hR h x0 30) x2 ≠ hI h (hR h x0 28) x2 → (((-2147483648 : Int) ≤ x2 + 1 ∧ x2 + 1 ≤ (2147483647 : Int)) ∧ (P19 0 (x2 + 1) h))) ∧ (hI h (hR h x0 30) x2 = hI h (hR h x0 28) x2 → (((-2147483648 : Int) ≤ x2 + 1 ∧ x2 + 1 ≤ (2147483647 : Int)) ∧ (P19 1 (x2 + 1) h))))))))))))
def Lp_X12_isItself_19 (x0 : Nat) (x1 : Int) (x2 : Int) (h : Hp) (Q : Int → Hp → Prop) : Prop := ∀ P19 : Int → Int → Hp → Prop, (∀ (x1 : Int) (x2 : Int) (h : Hp), BLp_X12_isItself_19 x0 P19 x1 x2 h Q → P19 x1 x2 h) → P19 x1 x2 h
theorem Lp_X12_isItself_19_ind {x0 : Nat} {Q : Int → Hp → Prop} (I : Int → Int → Hp → Prop) (μ : Int → Int → Hp → Nat) (hs : ∀ (P19 : Int → Int → Hp → Prop) (x1 : Int) (x2 : Int) (h : Hp), I x1 x2 h → (∀ (x1' : Int) (x2' : Int) (h' : Hp), I x1' x2' h' → μ x1' x2' h' < μ x1 x2 h → P19 x1' x2' h') → BLp_X12_isItself_19 x0 P19 x1 x2 h Q) : ∀ (x1 : Int) (x2 : Int) (h : Hp), I x1 x2 h → Lp_X12_isItself_19 x0 x1 x2 h Q := by
  intro x1 x2 h hI P19 hP
  have key : ∀ (n : Nat) (x1 : Int) (x2 : Int) (h : Hp), I x1 x2 h → μ x1 x2 h < n → P19 x1 x2 h := by
    intro n
    induction n with
    | zero => intro x1 x2 h _ hl; exact absurd hl (Nat.not_lt_zero _)
    | succ n ih => intro x1 x2 h hi hl; exact hP x1 x2 h (hs P19 x1 x2 h hi (fun x1 x2 h' hi' hl' => ih x1 x2 h' hi' (by omega)))
  exact key _ x1 x2 h hI (Nat.lt_succ_self _)
theorem GLp_X12_isItself_19 (x0 : Nat) (x1 : Int) (x2 : Int) (h : Hp) (Q : Int → Hp → Prop) (hV : Lp_X12_isItself_19 x0 x1 x2 h Q) : Go i_X12_isItself 19 [(0, .inr (.inr x0)), (1, .inl x1), (2, .inl x2)] [] h (qI Q) := by
  refine hV (fun x1 x2 h => Go i_X12_isItself 19 [(0, .inr (.inr x0)), (1, .inl x1), (2, .inl x2)] [] h (qI Q)) (fun x1 x2 h hV => ?_)
  unfold BLp_X12_isItself_19 at hV
  have hP19 : ∀ (x1 : Int) (x2 : Int) (h : Hp), Go i_X12_isItself 19 [(0, .inr (.inr x0)), (1, .inl x1), (2, .inl x2)] [] h (qI Q) → Go i_X12_isItself 19 [(0, .inr (.inr x0)), (1, .inl x1), (2, .inl x2)] [] h (qI Q) := fun _ _ h z => z
  refine s_iload_n d_X12_isItself_19 rfl (ma 2 rfl) ?_
  refine s_aload_n d_X12_isItself_20 rfl (ma 0 rfl) ?_
  obtain ⟨o, hV⟩ := hV
  refine f_RX12_186g rfl d_X12_isItself_21 o ?_
  refine s_icmp_ge (tgt := 58) d_X12_isItself_24 (by decide) (fun c => ?_) (fun c => ?_)
  · have hV := hV.1 c
    refine s_iload_n d_X12_isItself_58 rfl (ma 1 rfl) ?_
    exact s_iret d_X12_isItself_59 rfl (nar_z hV.1) ⟨_, rfl, hV.2⟩
  · have hV := hV.2 c
    refine s_iload_n d_X12_isItself_27 rfl (ma 1 rfl) ?_
    refine s_if_eq (tgt := 58) d_X12_isItself_28 (by decide) (fun c => ?_) (fun c => ?_)
    · have hV := hV.1 c
      refine s_iload_n d_X12_isItself_58 rfl (ma 1 rfl) ?_
      exact s_iret d_X12_isItself_59 rfl (nar_z hV.1) ⟨_, rfl, hV.2⟩
    · have hV := hV.2 c
      refine s_aload_n d_X12_isItself_31 rfl (ma 0 rfl) ?_
      obtain ⟨o, hV⟩ := hV
      refine f_RX12_66g rfl d_X12_isItself_32 o ?_
      refine s_iload_n d_X12_isItself_35 rfl (ma 2 rfl) ?_
      obtain ⟨o, hV⟩ := hV
      refine s_iald d_X12_isItself_36 o.1 o.2.1 o.2.2 ?_
      refine s_aload_n d_X12_isItself_37 rfl (ma 0 rfl) ?_
      obtain ⟨o, hV⟩ := hV
      refine f_RX12_63g rfl d_X12_isItself_38 o ?_
      refine s_iload_n d_X12_isItself_41 rfl (ma 2 rfl) ?_
      obtain ⟨o, hV⟩ := hV
      refine s_iald d_X12_isItself_42 o.1 o.2.1 o.2.2 ?_
      refine s_icmp_ne (tgt := 50) d_X12_isItself_43 (by decide) (fun c => ?_) (fun c => ?_)
      · have hV := hV.1 c
        refine s_iconst d_X12_isItself_50 (okn rfl) ?_
        refine s_istore_n (lv' := [(1, .inl 0), (0, .inr (.inr x0)), (2, .inl x2)]) d_X12_isItself_51 rfl (Nat.le_of_ble_eq_true rfl) rfl ?_
        obtain ⟨o, hV⟩ := hV
        refine s_iinc (lv' := [(2, .inl (x2 + 1)), (1, .inl 0), (0, .inr (.inr x0))]) d_X12_isItself_52 (ma 2 rfl) o (Nat.le_of_ble_eq_true rfl) rfl ?_
        refine s_goto (tgt := 19) d_X12_isItself_55 (by decide) ?_
        refine s_pick (lv' := [(0, .inr (.inr x0)), (1, .inl 0), (2, .inl (x2 + 1))]) [2, 1, 0] rfl ?_
        exact hP19 _ _ _ hV
      · have hV := hV.2 c
        refine s_iconst d_X12_isItself_46 (okn rfl) ?_
        refine s_goto (tgt := 51) d_X12_isItself_47 (by decide) ?_
        refine s_istore_n (lv' := [(1, .inl 1), (0, .inr (.inr x0)), (2, .inl x2)]) d_X12_isItself_51 rfl (Nat.le_of_ble_eq_true rfl) rfl ?_
        obtain ⟨o, hV⟩ := hV
        refine s_iinc (lv' := [(2, .inl (x2 + 1)), (1, .inl 1), (0, .inr (.inr x0))]) d_X12_isItself_52 (ma 2 rfl) o (Nat.le_of_ble_eq_true rfl) rfl ?_
        refine s_goto (tgt := 19) d_X12_isItself_55 (by decide) ?_
        refine s_pick (lv' := [(0, .inr (.inr x0)), (1, .inl 1), (2, .inl (x2 + 1))]) [2, 1, 0] rfl ?_
        exact hP19 _ _ _ hV
def V_X12_isItself (x0 : Nat) (h : Hp) (Q : Int → Hp → Prop) : Prop :=
  hK h x0 = 11 ∧ (hK h x0 = 11 ∧ ((hI h x0 31 ≠ hI h x0 29 → (Lp_X12_isItself_19 x0 0 0 h Q)) ∧ (hI h x0 31 = hI h x0 29 → (Lp_X12_isItself_19 x0 1 0 h Q))))
theorem G_X12_isItself {x0 : Nat} (h : Hp) (Q : Int → Hp → Prop) (hV : V_X12_isItself x0 h Q) : C_X12_isItself x0 h Q := by
  unfold V_X12_isItself at hV
  show Go i_X12_isItself 0 [(0, .inr (.inr x0))] [] h (qI Q)
  refine s_aload_n d_X12_isItself_0 rfl (ma 0 rfl) ?_
  obtain ⟨o, hV⟩ := hV
  refine f_RX12_113g rfl d_X12_isItself_1 o ?_
  refine s_aload_n d_X12_isItself_4 rfl (ma 0 rfl) ?_
  obtain ⟨o, hV⟩ := hV
  refine f_RX12_186g rfl d_X12_isItself_5 o ?_
  refine s_icmp_ne (tgt := 15) d_X12_isItself_8 (by decide) (fun c => ?_) (fun c => ?_)
  · have hV := hV.1 c
    refine s_iconst d_X12_isItself_15 (okn rfl) ?_
    refine s_istore_n (lv' := [(1, .inl 0), (0, .inr (.inr x0))]) d_X12_isItself_16 rfl (Nat.le_of_ble_eq_true rfl) rfl ?_
    refine s_iconst d_X12_isItself_17 (okn rfl) ?_
    refine s_istore_n (lv' := [(2, .inl 0), (1, .inl 0), (0, .inr (.inr x0))]) d_X12_isItself_18 rfl (Nat.le_of_ble_eq_true rfl) rfl ?_
    refine s_pick (lv' := [(0, .inr (.inr x0)), (1, .inl 0), (2, .inl 0)]) [2, 1, 0] rfl ?_
    exact GLp_X12_isItself_19 _ _ _ _ _ hV
  · have hV := hV.2 c
    refine s_iconst d_X12_isItself_11 (okn rfl) ?_
    refine s_goto (tgt := 16) d_X12_isItself_12 (by decide) ?_
    refine s_istore_n (lv' := [(1, .inl 1), (0, .inr (.inr x0))]) d_X12_isItself_16 rfl (Nat.le_of_ble_eq_true rfl) rfl ?_
    refine s_iconst d_X12_isItself_17 (okn rfl) ?_
    refine s_istore_n (lv' := [(2, .inl 0), (1, .inl 1), (0, .inr (.inr x0))]) d_X12_isItself_18 rfl (Nat.le_of_ble_eq_true rfl) rfl ?_
    refine s_pick (lv' := [(0, .inr (.inr x0)), (1, .inl 1), (2, .inl 0)]) [2, 1, 0] rfl ?_
    exact GLp_X12_isItself_19 _ _ _ _ _ hV

theorem d_X12_back_0 : decode i_X12_back.2.1 0 = .ok (.iload_n 1, 1) := by decide +kernel
theorem d_X12_back_1 : decode i_X12_back.2.1 1 = .ok (.iconst 0, 1) := by decide +kernel
theorem d_X12_back_2 : decode i_X12_back.2.1 2 = .ok (.iconst 1, 1) := by decide +kernel
theorem d_X12_back_3 : decode i_X12_back.2.1 3 = .ok (.invokestatic 90, 3) := by decide +kernel
theorem d_X12_back_6 : decode i_X12_back.2.1 6 = .ok (.ifCond .ne 6, 3) := by decide +kernel
theorem d_X12_back_9 : decode i_X12_back.2.1 9 = .ok (.ldc 94, 2) := by decide +kernel
theorem d_X12_back_11 : decode i_X12_back.2.1 11 = .ok (.ireturn, 1) := by decide +kernel
theorem d_X12_back_12 : decode i_X12_back.2.1 12 = .ok (.aload_n 0, 1) := by decide +kernel
theorem d_X12_back_13 : decode i_X12_back.2.1 13 = .ok (.invokevirtual 205, 3) := by decide +kernel
theorem d_X12_back_16 : decode i_X12_back.2.1 16 = .ok (.iconst 0, 1) := by decide +kernel
theorem d_X12_back_17 : decode i_X12_back.2.1 17 = .ok (.istore_n 2, 1) := by decide +kernel
theorem d_X12_back_18 : decode i_X12_back.2.1 18 = .ok (.iload_n 2, 1) := by decide +kernel
theorem d_X12_back_19 : decode i_X12_back.2.1 19 = .ok (.bipush 60, 2) := by decide +kernel
theorem d_X12_back_21 : decode i_X12_back.2.1 21 = .ok (.if_icmp .ge 64, 3) := by decide +kernel
theorem d_X12_back_24 : decode i_X12_back.2.1 24 = .ok (.aload_n 0, 1) := by decide +kernel
theorem d_X12_back_25 : decode i_X12_back.2.1 25 = .ok (.getfield 186, 3) := by decide +kernel
theorem d_X12_back_28 : decode i_X12_back.2.1 28 = .ok (.ifCond .le 57, 3) := by decide +kernel
theorem d_X12_back_31 : decode i_X12_back.2.1 31 = .ok (.aload_n 0, 1) := by decide +kernel
theorem d_X12_back_32 : decode i_X12_back.2.1 32 = .ok (.invokevirtual 218, 3) := by decide +kernel
theorem d_X12_back_35 : decode i_X12_back.2.1 35 = .ok (.ifCond .eq 50, 3) := by decide +kernel
theorem d_X12_back_38 : decode i_X12_back.2.1 38 = .ok (.aload_n 0, 1) := by decide +kernel
theorem d_X12_back_39 : decode i_X12_back.2.1 39 = .ok (.getfield 113, 3) := by decide +kernel
theorem d_X12_back_42 : decode i_X12_back.2.1 42 = .ok (.bipush 60, 2) := by decide +kernel
theorem d_X12_back_44 : decode i_X12_back.2.1 44 = .ok (.if_icmp .gt 41, 3) := by decide +kernel
theorem d_X12_back_47 : decode i_X12_back.2.1 47 = .ok (.aload_n 0, 1) := by decide +kernel
theorem d_X12_back_48 : decode i_X12_back.2.1 48 = .ok (.invokevirtual 263, 3) := by decide +kernel
theorem d_X12_back_51 : decode i_X12_back.2.1 51 = .ok (.ifCond .ne 34, 3) := by decide +kernel
theorem d_X12_back_54 : decode i_X12_back.2.1 54 = .ok (.aload_n 0, 1) := by decide +kernel
theorem d_X12_back_55 : decode i_X12_back.2.1 55 = .ok (.getfield 66, 3) := by decide +kernel
theorem d_X12_back_58 : decode i_X12_back.2.1 58 = .ok (.iconst 0, 1) := by decide +kernel
theorem d_X12_back_59 : decode i_X12_back.2.1 59 = .ok (.aload_n 0, 1) := by decide +kernel
theorem d_X12_back_60 : decode i_X12_back.2.1 60 = .ok (.getfield 63, 3) := by decide +kernel
theorem d_X12_back_63 : decode i_X12_back.2.1 63 = .ok (.iconst 0, 1) := by decide +kernel
theorem d_X12_back_64 : decode i_X12_back.2.1 64 = .ok (.aload_n 0, 1) := by decide +kernel
theorem d_X12_back_65 : decode i_X12_back.2.1 65 = .ok (.getfield 113, 3) := by decide +kernel
theorem d_X12_back_68 : decode i_X12_back.2.1 68 = .ok (.invokestatic 136, 3) := by decide +kernel
theorem d_X12_back_71 : decode i_X12_back.2.1 71 = .ok (.aload_n 0, 1) := by decide +kernel
theorem d_X12_back_72 : decode i_X12_back.2.1 72 = .ok (.aload_n 0, 1) := by decide +kernel
theorem d_X12_back_73 : decode i_X12_back.2.1 73 = .ok (.getfield 113, 3) := by decide +kernel
theorem d_X12_back_76 : decode i_X12_back.2.1 76 = .ok (.putfield 186, 3) := by decide +kernel
theorem d_X12_back_79 : decode i_X12_back.2.1 79 = .ok (.iinc 2 1, 3) := by decide +kernel
theorem d_X12_back_82 : decode i_X12_back.2.1 82 = .ok (.goto (-64), 3) := by decide +kernel
theorem d_X12_back_85 : decode i_X12_back.2.1 85 = .ok (.iload_n 1, 1) := by decide +kernel
theorem d_X12_back_86 : decode i_X12_back.2.1 86 = .ok (.ifCond .ne 7, 3) := by decide +kernel
theorem d_X12_back_89 : decode i_X12_back.2.1 89 = .ok (.iload_n 2, 1) := by decide +kernel
theorem d_X12_back_90 : decode i_X12_back.2.1 90 = .ok (.goto 7, 3) := by decide +kernel
theorem d_X12_back_93 : decode i_X12_back.2.1 93 = .ok (.aload_n 0, 1) := by decide +kernel
theorem d_X12_back_94 : decode i_X12_back.2.1 94 = .ok (.getfield 186, 3) := by decide +kernel
theorem d_X12_back_97 : decode i_X12_back.2.1 97 = .ok (.ireturn, 1) := by decide +kernel
def J_X12_back_85 (x0 : Nat) (x1 : Int) (x2 : Int) (h : Hp) (Q : Int → Hp → Prop) : Prop :=
  (x1 ≠ 0 → (hK h x0 = 11 ∧ (Q (hI h x0 29) h))) ∧ (x1 = 0 → (Q x2 h))
theorem GJ_X12_back_85 (x0 : Nat) (x1 : Int) (x2 : Int) (h : Hp) (Q : Int → Hp → Prop) (hV : J_X12_back_85 x0 x1 x2 h Q) : Go i_X12_back 85 [(0, .inr (.inr x0)), (1, .inl x1), (2, .inl x2)] [] h (qI Q) := by
  unfold J_X12_back_85 at hV
  refine s_iload_n d_X12_back_85 rfl (ma 1 rfl) ?_
  refine s_if_ne (tgt := 93) d_X12_back_86 (by decide) (fun c => ?_) (fun c => ?_)
  · have hV := hV.1 c
    refine s_aload_n d_X12_back_93 rfl (ma 0 rfl) ?_
    obtain ⟨o, hV⟩ := hV
    refine f_RX12_186g rfl d_X12_back_94 o ?_
    exact s_iret d_X12_back_97 rfl rfl ⟨_, rfl, hV⟩
  · have hV := hV.2 c
    refine s_iload_n d_X12_back_89 rfl (ma 2 rfl) ?_
    refine s_goto (tgt := 97) d_X12_back_90 (by decide) ?_
    exact s_iret d_X12_back_97 rfl rfl ⟨_, rfl, hV⟩
def BLp_X12_back_18 (x0 : Nat) (x1 : Int) (P18 : Int → Hp → Prop) (x2 : Int) (h : Hp) (Q : Int → Hp → Prop) : Prop :=
  (60 ≤ x2 → (J_X12_back_85 x0 x1 x2 h Q)) ∧ (¬ 60 ≤ x2 → (hK h x0 = 11 ∧ ((hI h x0 29 ≤ 0 → (J_X12_back_85 x0 x1 x2 h Q)) ∧ (¬ hI h x0 29 ≤ 0 → (hK h x0 = 11 ∧ C_X12_isUnread x0  h (fun r2 h1 => ((r2 = 0 → (J_X12_back_85 x0 x1 x2 h1 Q)) ∧ (¬ r2 = 0 → (hK h1 x0 = 11 ∧ ((60 < hI h1 x0 31 → (J_X12_back_85 x0 x1 x2 h1 Q)) ∧ (¬ 60 < hI h1 x0 31 → (hK h1 x0 = 11 ∧ C_X12_isItself x0  h1 (fun r4 h3 => ((r4 ≠ 0 → (J_X12_back_85 x0 x1 x2 h3 Q)) ∧ (r4 = 0 → (hK h3 x0 = 11 ∧ (hK h3 x0 = 11 ∧ (hK h3 x0 = 11 ∧ (C_X12_bring (hR h3 x0 30) 0 (hR h3 x0 28) 0 (hI h3 x0 31) h3 (fun h5 => (hK h5 x0 = 11 ∧ (hK h5 x0 = 11 ∧ ∀ h6 : Hp, h6 = wI h5 x0 29 (hI h5 x0 31) → (((-2147483648 : Int) ≤ x2 + 1 ∧ x2 + 1 ≤ (2147483647 : Int)) ∧ (P18 (x2 + 1) h6))))))))))))))))))))))))
def Lp_X12_back_18 (x0 : Nat) (x1 : Int) (x2 : Int) (h : Hp) (Q : Int → Hp → Prop) : Prop := ∀ P18 : Int → Hp → Prop, (∀ (x2 : Int) (h : Hp), BLp_X12_back_18 x0 x1 P18 x2 h Q → P18 x2 h) → P18 x2 h
theorem Lp_X12_back_18_ind {x0 : Nat} {x1 : Int} {Q : Int → Hp → Prop} (I : Int → Hp → Prop) (μ : Int → Hp → Nat) (hs : ∀ (P18 : Int → Hp → Prop) (x2 : Int) (h : Hp), I x2 h → (∀ (x2' : Int) (h' : Hp), I x2' h' → μ x2' h' < μ x2 h → P18 x2' h') → BLp_X12_back_18 x0 x1 P18 x2 h Q) : ∀ (x2 : Int) (h : Hp), I x2 h → Lp_X12_back_18 x0 x1 x2 h Q := by
  intro x2 h hI P18 hP
  have key : ∀ (n : Nat) (x2 : Int) (h : Hp), I x2 h → μ x2 h < n → P18 x2 h := by
    intro n
    induction n with
    | zero => intro x2 h _ hl; exact absurd hl (Nat.not_lt_zero _)
    | succ n ih => intro x2 h hi hl; exact hP x2 h (hs P18 x2 h hi (fun x2 h' hi' hl' => ih x2 h' hi' (by omega)))
  exact key _ x2 h hI (Nat.lt_succ_self _)
theorem GLp_X12_back_18 (x0 : Nat) (x1 : Int) (x2 : Int) (h : Hp) (Q : Int → Hp → Prop) (hV : Lp_X12_back_18 x0 x1 x2 h Q) : Go i_X12_back 18 [(0, .inr (.inr x0)), (1, .inl x1), (2, .inl x2)] [] h (qI Q) := by
  refine hV (fun x2 h => Go i_X12_back 18 [(0, .inr (.inr x0)), (1, .inl x1), (2, .inl x2)] [] h (qI Q)) (fun x2 h hV => ?_)
  unfold BLp_X12_back_18 at hV
  have hP18 : ∀ (x2 : Int) (h : Hp), Go i_X12_back 18 [(0, .inr (.inr x0)), (1, .inl x1), (2, .inl x2)] [] h (qI Q) → Go i_X12_back 18 [(0, .inr (.inr x0)), (1, .inl x1), (2, .inl x2)] [] h (qI Q) := fun _ h z => z
  refine s_iload_n d_X12_back_18 rfl (ma 2 rfl) ?_
  refine s_bipush d_X12_back_19 (by decide) (okn rfl) ?_
  refine s_icmp_ge (tgt := 85) d_X12_back_21 (by decide) (fun c => ?_) (fun c => ?_)
  · have hV := hV.1 c
    exact GJ_X12_back_85 _ _ _ _ _ hV
  · have hV := hV.2 c
    refine s_aload_n d_X12_back_24 rfl (ma 0 rfl) ?_
    obtain ⟨o, hV⟩ := hV
    refine f_RX12_186g rfl d_X12_back_25 o ?_
    refine s_if_le (tgt := 85) d_X12_back_28 (by decide) (fun c => ?_) (fun c => ?_)
    · have hV := hV.1 c
      exact GJ_X12_back_85 _ _ _ _ _ hV
    · have hV := hV.2 c
      refine s_aload_n d_X12_back_31 rfl (ma 0 rfl) ?_
      obtain ⟨o, hV⟩ := hV
      refine v_RX12_218 rfl (Nat.le_of_ble_eq_true rfl) d_X12_back_32 o (Nat.le_of_ble_eq_true rfl) hV (fun r2 h1 hV => ?_)
      refine s_if_eq (tgt := 85) d_X12_back_35 (by decide) (fun c => ?_) (fun c => ?_)
      · have hV := hV.1 c
        exact GJ_X12_back_85 _ _ _ _ _ hV
      · have hV := hV.2 c
        refine s_aload_n d_X12_back_38 rfl (ma 0 rfl) ?_
        obtain ⟨o, hV⟩ := hV
        refine f_RX12_113g rfl d_X12_back_39 o ?_
        refine s_bipush d_X12_back_42 (by decide) (okn rfl) ?_
        refine s_icmp_gt (tgt := 85) d_X12_back_44 (by decide) (fun c => ?_) (fun c => ?_)
        · have hV := hV.1 c
          exact GJ_X12_back_85 _ _ _ _ _ hV
        · have hV := hV.2 c
          refine s_aload_n d_X12_back_47 rfl (ma 0 rfl) ?_
          obtain ⟨o, hV⟩ := hV
          refine v_RX12_263 rfl (Nat.le_of_ble_eq_true rfl) d_X12_back_48 o (Nat.le_of_ble_eq_true rfl) hV (fun r4 h3 hV => ?_)
          refine s_if_ne (tgt := 85) d_X12_back_51 (by decide) (fun c => ?_) (fun c => ?_)
          · have hV := hV.1 c
            exact GJ_X12_back_85 _ _ _ _ _ hV
          · have hV := hV.2 c
            refine s_aload_n d_X12_back_54 rfl (ma 0 rfl) ?_
            obtain ⟨o, hV⟩ := hV
            refine f_RX12_66g rfl d_X12_back_55 o ?_
            refine s_iconst d_X12_back_58 (okn rfl) ?_
            refine s_aload_n d_X12_back_59 rfl (ma 0 rfl) ?_
            obtain ⟨o, hV⟩ := hV
            refine f_RX12_63g rfl d_X12_back_60 o ?_
            refine s_iconst d_X12_back_63 (okn rfl) ?_
            refine s_aload_n d_X12_back_64 rfl (ma 0 rfl) ?_
            obtain ⟨o, hV⟩ := hV
            refine f_RX12_113g rfl d_X12_back_65 o ?_
            refine v_RX12_136 rfl (Nat.le_of_ble_eq_true rfl) d_X12_back_68 (Nat.le_of_ble_eq_true rfl) hV (fun h5 hV => ?_)
            refine s_aload_n d_X12_back_71 rfl (ma 0 rfl) ?_
            refine s_aload_n d_X12_back_72 rfl (ma 0 rfl) ?_
            obtain ⟨o, hV⟩ := hV
            refine f_RX12_113g rfl d_X12_back_73 o ?_
            obtain ⟨o, hV⟩ := hV
            refine f_RX12_186p rfl d_X12_back_76 o (fun h6 eh6 => ?_)
            have hV := hV h6 eh6
            obtain ⟨o, hV⟩ := hV
            refine s_iinc (lv' := [(2, .inl (x2 + 1)), (0, .inr (.inr x0)), (1, .inl x1)]) d_X12_back_79 (ma 2 rfl) o (Nat.le_of_ble_eq_true rfl) rfl ?_
            refine s_goto (tgt := 18) d_X12_back_82 (by decide) ?_
            refine s_pick (lv' := [(0, .inr (.inr x0)), (1, .inl x1), (2, .inl (x2 + 1))]) [1, 2, 0] rfl ?_
            exact hP18 _ _ hV
def V_X12_back (x0 : Nat) (x1 : Int) (h : Hp) (Q : Int → Hp → Prop) : Prop :=
  C_X12_is x1 0 1 h (fun r2 h1 => ((r2 ≠ 0 → (hK h1 x0 = 11 ∧ C_X12_begin x0  h1 (fun h3 => (Lp_X12_back_18 x0 x1 0 h3 Q)))) ∧ (r2 = 0 → (Q (-1000000002) h1))))
theorem G_X12_back {x0 : Nat} {x1 : Int} (h : Hp) (Q : Int → Hp → Prop) (hV : V_X12_back x0 x1 h Q) : C_X12_back x0 x1 h Q := by
  unfold V_X12_back at hV
  show Go i_X12_back 0 [(0, .inr (.inr x0)), (1, .inl x1)] [] h (qI Q)
  refine s_iload_n d_X12_back_0 rfl (ma 1 rfl) ?_
  refine s_iconst d_X12_back_1 (okn rfl) ?_
  refine s_iconst d_X12_back_2 (okn rfl) ?_
  refine v_RX12_90 rfl (Nat.le_of_ble_eq_true rfl) d_X12_back_3 (Nat.le_of_ble_eq_true rfl) hV (fun r2 h1 hV => ?_)
  refine s_if_ne (tgt := 12) d_X12_back_6 (by decide) (fun c => ?_) (fun c => ?_)
  · have hV := hV.1 c
    refine s_aload_n d_X12_back_12 rfl (ma 0 rfl) ?_
    obtain ⟨o, hV⟩ := hV
    refine v_RX12_205 rfl (Nat.le_of_ble_eq_true rfl) d_X12_back_13 o (Nat.le_of_ble_eq_true rfl) hV (fun h3 hV => ?_)
    refine s_iconst d_X12_back_16 (okn rfl) ?_
    refine s_istore_n (lv' := [(2, .inl 0), (0, .inr (.inr x0)), (1, .inl x1)]) d_X12_back_17 rfl (Nat.le_of_ble_eq_true rfl) rfl ?_
    refine s_pick (lv' := [(0, .inr (.inr x0)), (1, .inl x1), (2, .inl 0)]) [1, 2, 0] rfl ?_
    exact GLp_X12_back_18 _ _ _ _ _ hV
  · have hV := hV.2 c
    refine s_ldc (n := (-1000000002)) d_X12_back_9 k_RX12_94 (by decide) (okn rfl) ?_
    exact s_iret d_X12_back_11 rfl rfl ⟨_, rfl, hV⟩

theorem d_X12_in_0 : decode i_X12_in.2.1 0 = .ok (.aload_n 0, 1) := by decide +kernel
theorem d_X12_in_1 : decode i_X12_in.2.1 1 = .ok (.iload_n 1, 1) := by decide +kernel
theorem d_X12_in_2 : decode i_X12_in.2.1 2 = .ok (.invokevirtual 178, 3) := by decide +kernel
theorem d_X12_in_5 : decode i_X12_in.2.1 5 = .ok (.ifCond .ne 6, 3) := by decide +kernel
theorem d_X12_in_8 : decode i_X12_in.2.1 8 = .ok (.ldc 181, 2) := by decide +kernel
theorem d_X12_in_10 : decode i_X12_in.2.1 10 = .ok (.ireturn, 1) := by decide +kernel
theorem d_X12_in_11 : decode i_X12_in.2.1 11 = .ok (.iconst 0, 1) := by decide +kernel
theorem d_X12_in_12 : decode i_X12_in.2.1 12 = .ok (.istore_n 2, 1) := by decide +kernel
theorem d_X12_in_13 : decode i_X12_in.2.1 13 = .ok (.iload_n 2, 1) := by decide +kernel
theorem d_X12_in_14 : decode i_X12_in.2.1 14 = .ok (.aload_n 0, 1) := by decide +kernel
theorem d_X12_in_15 : decode i_X12_in.2.1 15 = .ok (.getfield 32, 3) := by decide +kernel
theorem d_X12_in_18 : decode i_X12_in.2.1 18 = .ok (.iconst 0, 1) := by decide +kernel
theorem d_X12_in_19 : decode i_X12_in.2.1 19 = .ok (.iaload, 1) := by decide +kernel
theorem d_X12_in_20 : decode i_X12_in.2.1 20 = .ok (.if_icmp .ge 20, 3) := by decide +kernel
theorem d_X12_in_23 : decode i_X12_in.2.1 23 = .ok (.aload_n 0, 1) := by decide +kernel
theorem d_X12_in_24 : decode i_X12_in.2.1 24 = .ok (.iload_n 1, 1) := by decide +kernel
theorem d_X12_in_25 : decode i_X12_in.2.1 25 = .ok (.iload_n 2, 1) := by decide +kernel
theorem d_X12_in_26 : decode i_X12_in.2.1 26 = .ok (.invokevirtual 156, 3) := by decide +kernel
theorem d_X12_in_29 : decode i_X12_in.2.1 29 = .ok (.ifCond .eq 5, 3) := by decide +kernel
theorem d_X12_in_32 : decode i_X12_in.2.1 32 = .ok (.iload_n 2, 1) := by decide +kernel
theorem d_X12_in_33 : decode i_X12_in.2.1 33 = .ok (.ireturn, 1) := by decide +kernel
theorem d_X12_in_34 : decode i_X12_in.2.1 34 = .ok (.iinc 2 1, 3) := by decide +kernel
theorem d_X12_in_37 : decode i_X12_in.2.1 37 = .ok (.goto (-24), 3) := by decide +kernel
theorem d_X12_in_40 : decode i_X12_in.2.1 40 = .ok (.iconst (-1), 1) := by decide +kernel
theorem d_X12_in_41 : decode i_X12_in.2.1 41 = .ok (.ireturn, 1) := by decide +kernel
def BLp_X12_in_13 (x0 : Nat) (x1 : Int) (P13 : Int → Hp → Prop) (x2 : Int) (h : Hp) (Q : Int → Hp → Prop) : Prop :=
  hK h x0 = 11 ∧ ((hK h (hR h x0 14) = 12 ∧ (0 : Int) ≤ 0 ∧ 0 < hL h (hR h x0 14)) ∧ ((hI h (hR h x0 14) 0 ≤ x2 → (Q (-1) h)) ∧ (¬ hI h (hR h x0 14) 0 ≤ x2 → (hK h x0 = 11 ∧ C_X12_stands x0 x1 x2 h (fun r2 h1 => ((r2 = 0 → (((-2147483648 : Int) ≤ x2 + 1 ∧ x2 + 1 ≤ (2147483647 : Int)) ∧ (P13 (x2 + 1) h1))) ∧ (¬ r2 = 0 → (Q x2 h1))))))))
def Lp_X12_in_13 (x0 : Nat) (x1 : Int) (x2 : Int) (h : Hp) (Q : Int → Hp → Prop) : Prop := ∀ P13 : Int → Hp → Prop, (∀ (x2 : Int) (h : Hp), BLp_X12_in_13 x0 x1 P13 x2 h Q → P13 x2 h) → P13 x2 h
theorem Lp_X12_in_13_ind {x0 : Nat} {x1 : Int} {Q : Int → Hp → Prop} (I : Int → Hp → Prop) (μ : Int → Hp → Nat) (hs : ∀ (P13 : Int → Hp → Prop) (x2 : Int) (h : Hp), I x2 h → (∀ (x2' : Int) (h' : Hp), I x2' h' → μ x2' h' < μ x2 h → P13 x2' h') → BLp_X12_in_13 x0 x1 P13 x2 h Q) : ∀ (x2 : Int) (h : Hp), I x2 h → Lp_X12_in_13 x0 x1 x2 h Q := by
  intro x2 h hI P13 hP
  have key : ∀ (n : Nat) (x2 : Int) (h : Hp), I x2 h → μ x2 h < n → P13 x2 h := by
    intro n
    induction n with
    | zero => intro x2 h _ hl; exact absurd hl (Nat.not_lt_zero _)
    | succ n ih => intro x2 h hi hl; exact hP x2 h (hs P13 x2 h hi (fun x2 h' hi' hl' => ih x2 h' hi' (by omega)))
  exact key _ x2 h hI (Nat.lt_succ_self _)
theorem GLp_X12_in_13 (x0 : Nat) (x1 : Int) (x2 : Int) (h : Hp) (Q : Int → Hp → Prop) (hV : Lp_X12_in_13 x0 x1 x2 h Q) : Go i_X12_in 13 [(0, .inr (.inr x0)), (1, .inl x1), (2, .inl x2)] [] h (qI Q) := by
  refine hV (fun x2 h => Go i_X12_in 13 [(0, .inr (.inr x0)), (1, .inl x1), (2, .inl x2)] [] h (qI Q)) (fun x2 h hV => ?_)
  unfold BLp_X12_in_13 at hV
  have hP13 : ∀ (x2 : Int) (h : Hp), Go i_X12_in 13 [(0, .inr (.inr x0)), (1, .inl x1), (2, .inl x2)] [] h (qI Q) → Go i_X12_in 13 [(0, .inr (.inr x0)), (1, .inl x1), (2, .inl x2)] [] h (qI Q) := fun _ h z => z
  refine s_iload_n d_X12_in_13 rfl (ma 2 rfl) ?_
  refine s_aload_n d_X12_in_14 rfl (ma 0 rfl) ?_
  obtain ⟨o, hV⟩ := hV
  refine f_RX12_32g rfl d_X12_in_15 o ?_
  refine s_iconst d_X12_in_18 (okn rfl) ?_
  obtain ⟨o, hV⟩ := hV
  refine s_iald d_X12_in_19 o.1 o.2.1 o.2.2 ?_
  refine s_icmp_ge (tgt := 40) d_X12_in_20 (by decide) (fun c => ?_) (fun c => ?_)
  · have hV := hV.1 c
    refine s_iconst d_X12_in_40 (okn rfl) ?_
    exact s_iret d_X12_in_41 rfl rfl ⟨_, rfl, hV⟩
  · have hV := hV.2 c
    refine s_aload_n d_X12_in_23 rfl (ma 0 rfl) ?_
    refine s_iload_n d_X12_in_24 rfl (ma 1 rfl) ?_
    refine s_iload_n d_X12_in_25 rfl (ma 2 rfl) ?_
    obtain ⟨o, hV⟩ := hV
    refine v_RX12_156 rfl (Nat.le_of_ble_eq_true rfl) d_X12_in_26 o (Nat.le_of_ble_eq_true rfl) hV (fun r2 h1 hV => ?_)
    refine s_if_eq (tgt := 34) d_X12_in_29 (by decide) (fun c => ?_) (fun c => ?_)
    · have hV := hV.1 c
      obtain ⟨o, hV⟩ := hV
      refine s_iinc (lv' := [(2, .inl (x2 + 1)), (0, .inr (.inr x0)), (1, .inl x1)]) d_X12_in_34 (ma 2 rfl) o (Nat.le_of_ble_eq_true rfl) rfl ?_
      refine s_goto (tgt := 13) d_X12_in_37 (by decide) ?_
      refine s_pick (lv' := [(0, .inr (.inr x0)), (1, .inl x1), (2, .inl (x2 + 1))]) [1, 2, 0] rfl ?_
      exact hP13 _ _ hV
    · have hV := hV.2 c
      refine s_iload_n d_X12_in_32 rfl (ma 2 rfl) ?_
      exact s_iret d_X12_in_33 rfl rfl ⟨_, rfl, hV⟩
def V_X12_in (x0 : Nat) (x1 : Int) (h : Hp) (Q : Int → Hp → Prop) : Prop :=
  hK h x0 = 11 ∧ C_X12_isWord x0 x1 h (fun r2 h1 => ((r2 ≠ 0 → (Lp_X12_in_13 x0 x1 0 h1 Q)) ∧ (r2 = 0 → (Q (-1000000001) h1))))
theorem G_X12_in {x0 : Nat} {x1 : Int} (h : Hp) (Q : Int → Hp → Prop) (hV : V_X12_in x0 x1 h Q) : C_X12_in x0 x1 h Q := by
  unfold V_X12_in at hV
  show Go i_X12_in 0 [(0, .inr (.inr x0)), (1, .inl x1)] [] h (qI Q)
  refine s_aload_n d_X12_in_0 rfl (ma 0 rfl) ?_
  refine s_iload_n d_X12_in_1 rfl (ma 1 rfl) ?_
  obtain ⟨o, hV⟩ := hV
  refine v_RX12_178 rfl (Nat.le_of_ble_eq_true rfl) d_X12_in_2 o (Nat.le_of_ble_eq_true rfl) hV (fun r2 h1 hV => ?_)
  refine s_if_ne (tgt := 11) d_X12_in_5 (by decide) (fun c => ?_) (fun c => ?_)
  · have hV := hV.1 c
    refine s_iconst d_X12_in_11 (okn rfl) ?_
    refine s_istore_n (lv' := [(2, .inl 0), (0, .inr (.inr x0)), (1, .inl x1)]) d_X12_in_12 rfl (Nat.le_of_ble_eq_true rfl) rfl ?_
    refine s_pick (lv' := [(0, .inr (.inr x0)), (1, .inl x1), (2, .inl 0)]) [1, 2, 0] rfl ?_
    exact GLp_X12_in_13 _ _ _ _ _ hV
  · have hV := hV.2 c
    refine s_ldc (n := (-1000000001)) d_X12_in_8 k_RX12_181 (by decide) (okn rfl) ?_
    exact s_iret d_X12_in_10 rfl rfl ⟨_, rfl, hV⟩

theorem d_X12_changes_0 : decode i_X12_changes.2.1 0 = .ok (.aload_n 0, 1) := by decide +kernel
theorem d_X12_changes_1 : decode i_X12_changes.2.1 1 = .ok (.iload_n 1, 1) := by decide +kernel
theorem d_X12_changes_2 : decode i_X12_changes.2.1 2 = .ok (.invokevirtual 178, 3) := by decide +kernel
theorem d_X12_changes_5 : decode i_X12_changes.2.1 5 = .ok (.ifCond .ne 6, 3) := by decide +kernel
theorem d_X12_changes_8 : decode i_X12_changes.2.1 8 = .ok (.ldc 181, 2) := by decide +kernel
theorem d_X12_changes_10 : decode i_X12_changes.2.1 10 = .ok (.ireturn, 1) := by decide +kernel
theorem d_X12_changes_11 : decode i_X12_changes.2.1 11 = .ok (.aload_n 0, 1) := by decide +kernel
theorem d_X12_changes_12 : decode i_X12_changes.2.1 12 = .ok (.getfield 32, 3) := by decide +kernel
theorem d_X12_changes_15 : decode i_X12_changes.2.1 15 = .ok (.iconst 0, 1) := by decide +kernel
theorem d_X12_changes_16 : decode i_X12_changes.2.1 16 = .ok (.iaload, 1) := by decide +kernel
theorem d_X12_changes_17 : decode i_X12_changes.2.1 17 = .ok (.istore_n 2, 1) := by decide +kernel
theorem d_X12_changes_18 : decode i_X12_changes.2.1 18 = .ok (.iconst 0, 1) := by decide +kernel
theorem d_X12_changes_19 : decode i_X12_changes.2.1 19 = .ok (.istore_n 3, 1) := by decide +kernel
theorem d_X12_changes_20 : decode i_X12_changes.2.1 20 = .ok (.iload_n 3, 1) := by decide +kernel
theorem d_X12_changes_21 : decode i_X12_changes.2.1 21 = .ok (.iload_n 2, 1) := by decide +kernel
theorem d_X12_changes_22 : decode i_X12_changes.2.1 22 = .ok (.if_icmp .gt 16, 3) := by decide +kernel
theorem d_X12_changes_25 : decode i_X12_changes.2.1 25 = .ok (.aload_n 0, 1) := by decide +kernel
theorem d_X12_changes_26 : decode i_X12_changes.2.1 26 = .ok (.getfield 81, 3) := by decide +kernel
theorem d_X12_changes_29 : decode i_X12_changes.2.1 29 = .ok (.iload_n 3, 1) := by decide +kernel
theorem d_X12_changes_30 : decode i_X12_changes.2.1 30 = .ok (.iload_n 3, 1) := by decide +kernel
theorem d_X12_changes_31 : decode i_X12_changes.2.1 31 = .ok (.iastore, 1) := by decide +kernel
theorem d_X12_changes_32 : decode i_X12_changes.2.1 32 = .ok (.iinc 3 1, 3) := by decide +kernel
theorem d_X12_changes_35 : decode i_X12_changes.2.1 35 = .ok (.goto (-15), 3) := by decide +kernel
theorem d_X12_changes_38 : decode i_X12_changes.2.1 38 = .ok (.iconst 0, 1) := by decide +kernel
theorem d_X12_changes_39 : decode i_X12_changes.2.1 39 = .ok (.istore_n 3, 1) := by decide +kernel
theorem d_X12_changes_40 : decode i_X12_changes.2.1 40 = .ok (.iload_n 3, 1) := by decide +kernel
theorem d_X12_changes_41 : decode i_X12_changes.2.1 41 = .ok (.aload_n 0, 1) := by decide +kernel
theorem d_X12_changes_42 : decode i_X12_changes.2.1 42 = .ok (.getfield 26, 3) := by decide +kernel
theorem d_X12_changes_45 : decode i_X12_changes.2.1 45 = .ok (.iload_n 1, 1) := by decide +kernel
theorem d_X12_changes_46 : decode i_X12_changes.2.1 46 = .ok (.iaload, 1) := by decide +kernel
theorem d_X12_changes_47 : decode i_X12_changes.2.1 47 = .ok (.if_icmp .ge 146, 3) := by decide +kernel
theorem d_X12_changes_50 : decode i_X12_changes.2.1 50 = .ok (.aload_n 0, 1) := by decide +kernel
theorem d_X12_changes_51 : decode i_X12_changes.2.1 51 = .ok (.getfield 81, 3) := by decide +kernel
theorem d_X12_changes_54 : decode i_X12_changes.2.1 54 = .ok (.iconst 0, 1) := by decide +kernel
theorem d_X12_changes_55 : decode i_X12_changes.2.1 55 = .ok (.iaload, 1) := by decide +kernel
theorem d_X12_changes_56 : decode i_X12_changes.2.1 56 = .ok (.istore 4, 2) := by decide +kernel
theorem d_X12_changes_58 : decode i_X12_changes.2.1 58 = .ok (.aload_n 0, 1) := by decide +kernel
theorem d_X12_changes_59 : decode i_X12_changes.2.1 59 = .ok (.getfield 81, 3) := by decide +kernel
theorem d_X12_changes_62 : decode i_X12_changes.2.1 62 = .ok (.iconst 0, 1) := by decide +kernel
theorem d_X12_changes_63 : decode i_X12_changes.2.1 63 = .ok (.iload_n 3, 1) := by decide +kernel
theorem d_X12_changes_64 : decode i_X12_changes.2.1 64 = .ok (.iconst 1, 1) := by decide +kernel
theorem d_X12_changes_65 : decode i_X12_changes.2.1 65 = .ok (.iadd, 1) := by decide +kernel
theorem d_X12_changes_66 : decode i_X12_changes.2.1 66 = .ok (.iastore, 1) := by decide +kernel
theorem d_X12_changes_67 : decode i_X12_changes.2.1 67 = .ok (.iconst 1, 1) := by decide +kernel
theorem d_X12_changes_68 : decode i_X12_changes.2.1 68 = .ok (.istore 5, 2) := by decide +kernel
theorem d_X12_changes_70 : decode i_X12_changes.2.1 70 = .ok (.iload 5, 2) := by decide +kernel
theorem d_X12_changes_72 : decode i_X12_changes.2.1 72 = .ok (.iload_n 2, 1) := by decide +kernel
theorem d_X12_changes_73 : decode i_X12_changes.2.1 73 = .ok (.if_icmp .gt 114, 3) := by decide +kernel
theorem d_X12_changes_76 : decode i_X12_changes.2.1 76 = .ok (.iload 4, 2) := by decide +kernel
theorem d_X12_changes_78 : decode i_X12_changes.2.1 78 = .ok (.aload_n 0, 1) := by decide +kernel
theorem d_X12_changes_79 : decode i_X12_changes.2.1 79 = .ok (.getfield 32, 3) := by decide +kernel
theorem d_X12_changes_82 : decode i_X12_changes.2.1 82 = .ok (.iconst 3, 1) := by decide +kernel
theorem d_X12_changes_83 : decode i_X12_changes.2.1 83 = .ok (.iload 5, 2) := by decide +kernel
theorem d_X12_changes_85 : decode i_X12_changes.2.1 85 = .ok (.iadd, 1) := by decide +kernel
theorem d_X12_changes_86 : decode i_X12_changes.2.1 86 = .ok (.iconst 1, 1) := by decide +kernel
theorem d_X12_changes_87 : decode i_X12_changes.2.1 87 = .ok (.isub, 1) := by decide +kernel
theorem d_X12_changes_88 : decode i_X12_changes.2.1 88 = .ok (.iaload, 1) := by decide +kernel
theorem d_X12_changes_89 : decode i_X12_changes.2.1 89 = .ok (.aload_n 0, 1) := by decide +kernel
theorem d_X12_changes_90 : decode i_X12_changes.2.1 90 = .ok (.getfield 29, 3) := by decide +kernel
theorem d_X12_changes_93 : decode i_X12_changes.2.1 93 = .ok (.bipush 8, 2) := by decide +kernel
theorem d_X12_changes_95 : decode i_X12_changes.2.1 95 = .ok (.iload_n 1, 1) := by decide +kernel
theorem d_X12_changes_96 : decode i_X12_changes.2.1 96 = .ok (.imul, 1) := by decide +kernel
theorem d_X12_changes_97 : decode i_X12_changes.2.1 97 = .ok (.iload_n 3, 1) := by decide +kernel
theorem d_X12_changes_98 : decode i_X12_changes.2.1 98 = .ok (.iadd, 1) := by decide +kernel
theorem d_X12_changes_99 : decode i_X12_changes.2.1 99 = .ok (.iaload, 1) := by decide +kernel
theorem d_X12_changes_100 : decode i_X12_changes.2.1 100 = .ok (.if_icmp .ne 7, 3) := by decide +kernel
theorem d_X12_changes_103 : decode i_X12_changes.2.1 103 = .ok (.iconst 0, 1) := by decide +kernel
theorem d_X12_changes_104 : decode i_X12_changes.2.1 104 = .ok (.goto 4, 3) := by decide +kernel
theorem d_X12_changes_107 : decode i_X12_changes.2.1 107 = .ok (.iconst 1, 1) := by decide +kernel
theorem d_X12_changes_108 : decode i_X12_changes.2.1 108 = .ok (.iadd, 1) := by decide +kernel
theorem d_X12_changes_109 : decode i_X12_changes.2.1 109 = .ok (.istore 6, 2) := by decide +kernel
theorem d_X12_changes_111 : decode i_X12_changes.2.1 111 = .ok (.aload_n 0, 1) := by decide +kernel
theorem d_X12_changes_112 : decode i_X12_changes.2.1 112 = .ok (.getfield 81, 3) := by decide +kernel
theorem d_X12_changes_115 : decode i_X12_changes.2.1 115 = .ok (.iload 5, 2) := by decide +kernel
theorem d_X12_changes_117 : decode i_X12_changes.2.1 117 = .ok (.iaload, 1) := by decide +kernel
theorem d_X12_changes_118 : decode i_X12_changes.2.1 118 = .ok (.istore 4, 2) := by decide +kernel
theorem d_X12_changes_120 : decode i_X12_changes.2.1 120 = .ok (.aload_n 0, 1) := by decide +kernel
theorem d_X12_changes_121 : decode i_X12_changes.2.1 121 = .ok (.getfield 81, 3) := by decide +kernel
theorem d_X12_changes_124 : decode i_X12_changes.2.1 124 = .ok (.iload 5, 2) := by decide +kernel
theorem d_X12_changes_126 : decode i_X12_changes.2.1 126 = .ok (.iconst 1, 1) := by decide +kernel
theorem d_X12_changes_127 : decode i_X12_changes.2.1 127 = .ok (.isub, 1) := by decide +kernel
theorem d_X12_changes_128 : decode i_X12_changes.2.1 128 = .ok (.iaload, 1) := by decide +kernel
theorem d_X12_changes_129 : decode i_X12_changes.2.1 129 = .ok (.iconst 1, 1) := by decide +kernel
theorem d_X12_changes_130 : decode i_X12_changes.2.1 130 = .ok (.iadd, 1) := by decide +kernel
theorem d_X12_changes_131 : decode i_X12_changes.2.1 131 = .ok (.istore 7, 2) := by decide +kernel
theorem d_X12_changes_133 : decode i_X12_changes.2.1 133 = .ok (.aload_n 0, 1) := by decide +kernel
theorem d_X12_changes_134 : decode i_X12_changes.2.1 134 = .ok (.getfield 81, 3) := by decide +kernel
theorem d_X12_changes_137 : decode i_X12_changes.2.1 137 = .ok (.iload 5, 2) := by decide +kernel
theorem d_X12_changes_139 : decode i_X12_changes.2.1 139 = .ok (.iaload, 1) := by decide +kernel
theorem d_X12_changes_140 : decode i_X12_changes.2.1 140 = .ok (.iconst 1, 1) := by decide +kernel
theorem d_X12_changes_141 : decode i_X12_changes.2.1 141 = .ok (.iadd, 1) := by decide +kernel
theorem d_X12_changes_142 : decode i_X12_changes.2.1 142 = .ok (.istore 8, 2) := by decide +kernel
theorem d_X12_changes_144 : decode i_X12_changes.2.1 144 = .ok (.iload 7, 2) := by decide +kernel
theorem d_X12_changes_146 : decode i_X12_changes.2.1 146 = .ok (.iload 6, 2) := by decide +kernel
theorem d_X12_changes_148 : decode i_X12_changes.2.1 148 = .ok (.if_icmp .ge 8, 3) := by decide +kernel
theorem d_X12_changes_151 : decode i_X12_changes.2.1 151 = .ok (.iload 7, 2) := by decide +kernel
theorem d_X12_changes_153 : decode i_X12_changes.2.1 153 = .ok (.goto 5, 3) := by decide +kernel
theorem d_X12_changes_156 : decode i_X12_changes.2.1 156 = .ok (.iload 6, 2) := by decide +kernel
theorem d_X12_changes_158 : decode i_X12_changes.2.1 158 = .ok (.istore 6, 2) := by decide +kernel
theorem d_X12_changes_160 : decode i_X12_changes.2.1 160 = .ok (.aload_n 0, 1) := by decide +kernel
theorem d_X12_changes_161 : decode i_X12_changes.2.1 161 = .ok (.getfield 81, 3) := by decide +kernel
theorem d_X12_changes_164 : decode i_X12_changes.2.1 164 = .ok (.iload 5, 2) := by decide +kernel
theorem d_X12_changes_166 : decode i_X12_changes.2.1 166 = .ok (.iload 8, 2) := by decide +kernel
theorem d_X12_changes_168 : decode i_X12_changes.2.1 168 = .ok (.iload 6, 2) := by decide +kernel
theorem d_X12_changes_170 : decode i_X12_changes.2.1 170 = .ok (.if_icmp .ge 8, 3) := by decide +kernel
theorem d_X12_changes_173 : decode i_X12_changes.2.1 173 = .ok (.iload 8, 2) := by decide +kernel
theorem d_X12_changes_175 : decode i_X12_changes.2.1 175 = .ok (.goto 5, 3) := by decide +kernel
theorem d_X12_changes_178 : decode i_X12_changes.2.1 178 = .ok (.iload 6, 2) := by decide +kernel
theorem d_X12_changes_180 : decode i_X12_changes.2.1 180 = .ok (.iastore, 1) := by decide +kernel
theorem d_X12_changes_181 : decode i_X12_changes.2.1 181 = .ok (.iinc 5 1, 3) := by decide +kernel
theorem d_X12_changes_184 : decode i_X12_changes.2.1 184 = .ok (.goto (-114), 3) := by decide +kernel
theorem d_X12_changes_187 : decode i_X12_changes.2.1 187 = .ok (.iinc 3 1, 3) := by decide +kernel
theorem d_X12_changes_190 : decode i_X12_changes.2.1 190 = .ok (.goto (-150), 3) := by decide +kernel
theorem d_X12_changes_193 : decode i_X12_changes.2.1 193 = .ok (.aload_n 0, 1) := by decide +kernel
theorem d_X12_changes_194 : decode i_X12_changes.2.1 194 = .ok (.getfield 81, 3) := by decide +kernel
theorem d_X12_changes_197 : decode i_X12_changes.2.1 197 = .ok (.iload_n 2, 1) := by decide +kernel
theorem d_X12_changes_198 : decode i_X12_changes.2.1 198 = .ok (.iaload, 1) := by decide +kernel
theorem d_X12_changes_199 : decode i_X12_changes.2.1 199 = .ok (.ireturn, 1) := by decide +kernel
def J_X12_changes_158 (P70 : Int → Int → Hp → Prop) (x0 : Nat) (x1 : Int) (x2 : Int) (x3 : Int) (x4 : Int) (x5 : Int) (x8 : Int) (y0 : Int) (h : Hp) (Q : Int → Hp → Prop) : Prop :=
  hK h x0 = 11 ∧ ((y0 ≤ x8 → ((hK h (hR h x0 37) = 12 ∧ (0 : Int) ≤ x5 ∧ x5 < hL h (hR h x0 37)) ∧ ∀ h1 : Hp, h1 = wI h (hR h x0 37) x5 y0 → (((-2147483648 : Int) ≤ x5 + 1 ∧ x5 + 1 ≤ (2147483647 : Int)) ∧ (P70 x4 (x5 + 1) h1)))) ∧ (¬ y0 ≤ x8 → ((hK h (hR h x0 37) = 12 ∧ (0 : Int) ≤ x5 ∧ x5 < hL h (hR h x0 37)) ∧ ∀ h2 : Hp, h2 = wI h (hR h x0 37) x5 x8 → (((-2147483648 : Int) ≤ x5 + 1 ∧ x5 + 1 ≤ (2147483647 : Int)) ∧ (P70 x4 (x5 + 1) h2)))))
theorem GJ_X12_changes_158 {P70 : Int → Int → Hp → Prop} (x0 : Nat) (x1 : Int) (x2 : Int) (x3 : Int) (x4 : Int) (x5 : Int) (x8 : Int) (y0 : Int) (h : Hp) (Q : Int → Hp → Prop) (hP70 : ∀ (m4 : Int) (m5 : Int) (h : Hp), P70 m4 m5 h → Go i_X12_changes 70 [(0, .inr (.inr x0)), (1, .inl x1), (2, .inl x2), (3, .inl x3), (4, .inl m4), (5, .inl m5)] [] h (qI Q)) (hV : J_X12_changes_158 P70 x0 x1 x2 x3 x4 x5 x8 y0 h Q) : Go i_X12_changes 158 [(0, .inr (.inr x0)), (1, .inl x1), (2, .inl x2), (3, .inl x3), (4, .inl x4), (5, .inl x5), (8, .inl x8)] [.inl y0] h (qI Q) := by
  unfold J_X12_changes_158 at hV
  refine s_istore (lv' := [(6, .inl y0), (0, .inr (.inr x0)), (1, .inl x1), (2, .inl x2), (3, .inl x3), (4, .inl x4), (5, .inl x5), (8, .inl x8)]) d_X12_changes_158 (Nat.le_of_ble_eq_true rfl) rfl ?_
  refine s_aload_n d_X12_changes_160 rfl (ma 1 rfl) ?_
  obtain ⟨o, hV⟩ := hV
  refine f_RX12_81g rfl d_X12_changes_161 o ?_
  refine s_iload d_X12_changes_164 (ma 6 rfl) ?_
  refine s_iload d_X12_changes_166 (ma 7 rfl) ?_
  refine s_iload d_X12_changes_168 (ma 0 rfl) ?_
  refine s_icmp_ge (tgt := 178) d_X12_changes_170 (by decide) (fun c => ?_) (fun c => ?_)
  · have hV := hV.1 c
    refine s_iload d_X12_changes_178 (ma 0 rfl) ?_
    obtain ⟨o, hV⟩ := hV
    refine s_iast d_X12_changes_180 o.1 o.2.1 o.2.2 ?_
    refine s_nmH (fun h1 eh1 => ?_)
    have hV := hV h1 eh1
    obtain ⟨o, hV⟩ := hV
    refine s_iinc (lv' := [(5, .inl (x5 + 1)), (6, .inl y0), (0, .inr (.inr x0)), (1, .inl x1), (2, .inl x2), (3, .inl x3), (4, .inl x4), (8, .inl x8)]) d_X12_changes_181 (ma 6 rfl) o (Nat.le_of_ble_eq_true rfl) rfl ?_
    refine s_goto (tgt := 70) d_X12_changes_184 (by decide) ?_
    refine s_pick (lv' := [(0, .inr (.inr x0)), (1, .inl x1), (2, .inl x2), (3, .inl x3), (4, .inl x4), (5, .inl (x5 + 1))]) [2, 3, 4, 5, 6, 0] rfl ?_
    exact hP70 _ _ _ hV
  · have hV := hV.2 c
    refine s_iload d_X12_changes_173 (ma 7 rfl) ?_
    refine s_goto (tgt := 180) d_X12_changes_175 (by decide) ?_
    obtain ⟨o, hV⟩ := hV
    refine s_iast d_X12_changes_180 o.1 o.2.1 o.2.2 ?_
    refine s_nmH (fun h2 eh2 => ?_)
    have hV := hV h2 eh2
    obtain ⟨o, hV⟩ := hV
    refine s_iinc (lv' := [(5, .inl (x5 + 1)), (6, .inl y0), (0, .inr (.inr x0)), (1, .inl x1), (2, .inl x2), (3, .inl x3), (4, .inl x4), (8, .inl x8)]) d_X12_changes_181 (ma 6 rfl) o (Nat.le_of_ble_eq_true rfl) rfl ?_
    refine s_goto (tgt := 70) d_X12_changes_184 (by decide) ?_
    refine s_pick (lv' := [(0, .inr (.inr x0)), (1, .inl x1), (2, .inl x2), (3, .inl x3), (4, .inl x4), (5, .inl (x5 + 1))]) [2, 3, 4, 5, 6, 0] rfl ?_
    exact hP70 _ _ _ hV
def J_X12_changes_108 (P70 : Int → Int → Hp → Prop) (x0 : Nat) (x1 : Int) (x2 : Int) (x3 : Int) (x5 : Int) (y0 : Int) (y1 : Int) (h : Hp) (Q : Int → Hp → Prop) : Prop :=
  ((-2147483648 : Int) ≤ y1 + y0 ∧ y1 + y0 ≤ (2147483647 : Int)) ∧ (∀ x6_1 : Int, x6_1 = y1 + y0 → (hK h x0 = 11 ∧ ((hK h (hR h x0 37) = 12 ∧ (0 : Int) ≤ x5 ∧ x5 < hL h (hR h x0 37)) ∧ (∀ x4_2 : Int, x4_2 = hI h (hR h x0 37) x5 → (hK h x0 = 11 ∧ (((-2147483648 : Int) ≤ x5 - 1 ∧ x5 - 1 ≤ (2147483647 : Int)) ∧ ((hK h (hR h x0 37) = 12 ∧ (0 : Int) ≤ x5 - 1 ∧ x5 - 1 < hL h (hR h x0 37)) ∧ (((-2147483648 : Int) ≤ (hI h (hR h x0 37) (x5 - 1)) + 1 ∧ (hI h (hR h x0 37) (x5 - 1)) + 1 ≤ (2147483647 : Int)) ∧ (∀ x7_3 : Int, x7_3 = (hI h (hR h x0 37) (x5 - 1)) + 1 → (hK h x0 = 11 ∧ ((hK h (hR h x0 37) = 12 ∧ (0 : Int) ≤ x5 ∧ x5 < hL h (hR h x0 37)) ∧ (((-2147483648 : Int) ≤ (hI h (hR h x0 37) x5) + 1 ∧ (hI h (hR h x0 37) x5) + 1 ≤ (2147483647 : Int)) ∧ (∀ x8_4 : Int, x8_4 = (hI h (hR h x0 37) x5) + 1 → ((x6_1 ≤ x7_3 → (J_X12_changes_158 P70 x0 x1 x2 x3 x4_2 x5 x8_4 x6_1 h Q)) ∧ (¬ x6_1 ≤ x7_3 → (J_X12_changes_158 P70 x0 x1 x2 x3 x4_2 x5 x8_4 x7_3 h Q))))))))))))))))
theorem GJ_X12_changes_108 {P70 : Int → Int → Hp → Prop} (x0 : Nat) (x1 : Int) (x2 : Int) (x3 : Int) (x5 : Int) (y0 : Int) (y1 : Int) (h : Hp) (Q : Int → Hp → Prop) (hP70 : ∀ (m4 : Int) (m5 : Int) (h : Hp), P70 m4 m5 h → Go i_X12_changes 70 [(0, .inr (.inr x0)), (1, .inl x1), (2, .inl x2), (3, .inl x3), (4, .inl m4), (5, .inl m5)] [] h (qI Q)) (hV : J_X12_changes_108 P70 x0 x1 x2 x3 x5 y0 y1 h Q) : Go i_X12_changes 108 [(0, .inr (.inr x0)), (1, .inl x1), (2, .inl x2), (3, .inl x3), (5, .inl x5)] [.inl y0, .inl y1] h (qI Q) := by
  unfold J_X12_changes_108 at hV
  obtain ⟨o, hV⟩ := hV
  refine s_iadd d_X12_changes_108 o ?_
  refine s_nmI (fun x6_1 ex6_1 => ?_)
  have hV := hV x6_1 ex6_1
  refine s_istore (lv' := [(6, .inl x6_1), (0, .inr (.inr x0)), (1, .inl x1), (2, .inl x2), (3, .inl x3), (5, .inl x5)]) d_X12_changes_109 (Nat.le_of_ble_eq_true rfl) rfl ?_
  refine s_aload_n d_X12_changes_111 rfl (ma 1 rfl) ?_
  obtain ⟨o, hV⟩ := hV
  refine f_RX12_81g rfl d_X12_changes_112 o ?_
  refine s_iload d_X12_changes_115 (ma 5 rfl) ?_
  obtain ⟨o, hV⟩ := hV
  refine s_iald d_X12_changes_117 o.1 o.2.1 o.2.2 ?_
  refine s_nmI (fun x4_2 ex4_2 => ?_)
  have hV := hV x4_2 ex4_2
  refine s_istore (lv' := [(4, .inl x4_2), (6, .inl x6_1), (0, .inr (.inr x0)), (1, .inl x1), (2, .inl x2), (3, .inl x3), (5, .inl x5)]) d_X12_changes_118 (Nat.le_of_ble_eq_true rfl) rfl ?_
  refine s_aload_n d_X12_changes_120 rfl (ma 2 rfl) ?_
  obtain ⟨o, hV⟩ := hV
  refine f_RX12_81g rfl d_X12_changes_121 o ?_
  refine s_iload d_X12_changes_124 (ma 6 rfl) ?_
  refine s_iconst d_X12_changes_126 (okn rfl) ?_
  obtain ⟨o, hV⟩ := hV
  refine s_isub d_X12_changes_127 o ?_
  obtain ⟨o, hV⟩ := hV
  refine s_iald d_X12_changes_128 o.1 o.2.1 o.2.2 ?_
  refine s_iconst d_X12_changes_129 (okn rfl) ?_
  obtain ⟨o, hV⟩ := hV
  refine s_iadd d_X12_changes_130 o ?_
  refine s_nmI (fun x7_3 ex7_3 => ?_)
  have hV := hV x7_3 ex7_3
  refine s_istore (lv' := [(7, .inl x7_3), (4, .inl x4_2), (6, .inl x6_1), (0, .inr (.inr x0)), (1, .inl x1), (2, .inl x2), (3, .inl x3), (5, .inl x5)]) d_X12_changes_131 (Nat.le_of_ble_eq_true rfl) rfl ?_
  refine s_aload_n d_X12_changes_133 rfl (ma 3 rfl) ?_
  obtain ⟨o, hV⟩ := hV
  refine f_RX12_81g rfl d_X12_changes_134 o ?_
  refine s_iload d_X12_changes_137 (ma 7 rfl) ?_
  obtain ⟨o, hV⟩ := hV
  refine s_iald d_X12_changes_139 o.1 o.2.1 o.2.2 ?_
  refine s_iconst d_X12_changes_140 (okn rfl) ?_
  obtain ⟨o, hV⟩ := hV
  refine s_iadd d_X12_changes_141 o ?_
  refine s_nmI (fun x8_4 ex8_4 => ?_)
  have hV := hV x8_4 ex8_4
  refine s_istore (lv' := [(8, .inl x8_4), (7, .inl x7_3), (4, .inl x4_2), (6, .inl x6_1), (0, .inr (.inr x0)), (1, .inl x1), (2, .inl x2), (3, .inl x3), (5, .inl x5)]) d_X12_changes_142 (Nat.le_of_ble_eq_true rfl) rfl ?_
  refine s_iload d_X12_changes_144 (ma 1 rfl) ?_
  refine s_iload d_X12_changes_146 (ma 3 rfl) ?_
  refine s_icmp_ge (tgt := 156) d_X12_changes_148 (by decide) (fun c => ?_) (fun c => ?_)
  · have hV := hV.1 c
    refine s_iload d_X12_changes_156 (ma 3 rfl) ?_
    refine s_pick (lv' := [(0, .inr (.inr x0)), (1, .inl x1), (2, .inl x2), (3, .inl x3), (4, .inl x4_2), (5, .inl x5), (8, .inl x8_4)]) [4, 5, 6, 7, 2, 8, 0] rfl ?_
    exact GJ_X12_changes_158 _ _ _ _ _ _ _ _ _ _ (by intros; apply hP70; assumption) hV
  · have hV := hV.2 c
    refine s_iload d_X12_changes_151 (ma 1 rfl) ?_
    refine s_goto (tgt := 158) d_X12_changes_153 (by decide) ?_
    refine s_pick (lv' := [(0, .inr (.inr x0)), (1, .inl x1), (2, .inl x2), (3, .inl x3), (4, .inl x4_2), (5, .inl x5), (8, .inl x8_4)]) [4, 5, 6, 7, 2, 8, 0] rfl ?_
    exact GJ_X12_changes_158 _ _ _ _ _ _ _ _ _ _ (by intros; apply hP70; assumption) hV
def BLp_X12_changes_70 (P40 : Int → Hp → Prop) (x0 : Nat) (x1 : Int) (x2 : Int) (x3 : Int) (P70 : Int → Int → Hp → Prop) (x4 : Int) (x5 : Int) (h : Hp) (Q : Int → Hp → Prop) : Prop :=
  (x2 < x5 → (((-2147483648 : Int) ≤ x3 + 1 ∧ x3 + 1 ≤ (2147483647 : Int)) ∧ (P40 (x3 + 1) h))) ∧ (¬ x2 < x5 → (hK h x0 = 11 ∧ (((-2147483648 : Int) ≤ 3 + x5 ∧ 3 + x5 ≤ (2147483647 : Int)) ∧ (((-2147483648 : Int) ≤ (3 + x5) - 1 ∧ (3 + x5) - 1 ≤ (2147483647 : Int)) ∧ ((hK h (hR h x0 14) = 12 ∧ (0 : Int) ≤ (3 + x5) - 1 ∧ (3 + x5) - 1 < hL h (hR h x0 14)) ∧ (hK h x0 = 11 ∧ (((-2147483648 : Int) ≤ 8 * x1 ∧ 8 * x1 ≤ (2147483647 : Int)) ∧ (((-2147483648 : Int) ≤ (8 * x1) + x3 ∧ (8 * x1) + x3 ≤ (2147483647 : Int)) ∧ ((hK h (hR h x0 13) = 12 ∧ (0 : Int) ≤ (8 * x1) + x3 ∧ (8 * x1) + x3 < hL h (hR h x0 13)) ∧ ((hI h (hR h x0 14) ((3 + x5) - 1) ≠ hI h (hR h x0 13) ((8 * x1) + x3) → (J_X12_changes_108 P70 x0 x1 x2 x3 x5 1 x4 h Q)) ∧ (hI h (hR h x0 14) ((3 + x5) - 1) = hI h (hR h x0 13) ((8 * x1) + x3) → (J_X12_changes_108 P70 x0 x1 x2 x3 x5 0 x4 h Q))))))))))))
def Lp_X12_changes_70 (P40 : Int → Hp → Prop) (x0 : Nat) (x1 : Int) (x2 : Int) (x3 : Int) (x4 : Int) (x5 : Int) (h : Hp) (Q : Int → Hp → Prop) : Prop := ∀ P70 : Int → Int → Hp → Prop, (∀ (x4 : Int) (x5 : Int) (h : Hp), BLp_X12_changes_70 P40 x0 x1 x2 x3 P70 x4 x5 h Q → P70 x4 x5 h) → P70 x4 x5 h
theorem Lp_X12_changes_70_ind {P40 : Int → Hp → Prop} {x0 : Nat} {x1 : Int} {x2 : Int} {x3 : Int} {Q : Int → Hp → Prop} (I : Int → Int → Hp → Prop) (μ : Int → Int → Hp → Nat) (hs : ∀ (P70 : Int → Int → Hp → Prop) (x4 : Int) (x5 : Int) (h : Hp), I x4 x5 h → (∀ (x4' : Int) (x5' : Int) (h' : Hp), I x4' x5' h' → μ x4' x5' h' < μ x4 x5 h → P70 x4' x5' h') → BLp_X12_changes_70 P40 x0 x1 x2 x3 P70 x4 x5 h Q) : ∀ (x4 : Int) (x5 : Int) (h : Hp), I x4 x5 h → Lp_X12_changes_70 P40 x0 x1 x2 x3 x4 x5 h Q := by
  intro x4 x5 h hI P70 hP
  have key : ∀ (n : Nat) (x4 : Int) (x5 : Int) (h : Hp), I x4 x5 h → μ x4 x5 h < n → P70 x4 x5 h := by
    intro n
    induction n with
    | zero => intro x4 x5 h _ hl; exact absurd hl (Nat.not_lt_zero _)
    | succ n ih => intro x4 x5 h hi hl; exact hP x4 x5 h (hs P70 x4 x5 h hi (fun x4 x5 h' hi' hl' => ih x4 x5 h' hi' (by omega)))
  exact key _ x4 x5 h hI (Nat.lt_succ_self _)
theorem GLp_X12_changes_70 {P40 : Int → Hp → Prop} (x0 : Nat) (x1 : Int) (x2 : Int) (x3 : Int) (x4 : Int) (x5 : Int) (h : Hp) (Q : Int → Hp → Prop) (hP40 : ∀ (m3 : Int) (h : Hp), P40 m3 h → Go i_X12_changes 40 [(0, .inr (.inr x0)), (1, .inl x1), (2, .inl x2), (3, .inl m3)] [] h (qI Q)) (hV : Lp_X12_changes_70 P40 x0 x1 x2 x3 x4 x5 h Q) : Go i_X12_changes 70 [(0, .inr (.inr x0)), (1, .inl x1), (2, .inl x2), (3, .inl x3), (4, .inl x4), (5, .inl x5)] [] h (qI Q) := by
  refine hV (fun x4 x5 h => Go i_X12_changes 70 [(0, .inr (.inr x0)), (1, .inl x1), (2, .inl x2), (3, .inl x3), (4, .inl x4), (5, .inl x5)] [] h (qI Q)) (fun x4 x5 h hV => ?_)
  unfold BLp_X12_changes_70 at hV
  have hP70 : ∀ (x4 : Int) (x5 : Int) (h : Hp), Go i_X12_changes 70 [(0, .inr (.inr x0)), (1, .inl x1), (2, .inl x2), (3, .inl x3), (4, .inl x4), (5, .inl x5)] [] h (qI Q) → Go i_X12_changes 70 [(0, .inr (.inr x0)), (1, .inl x1), (2, .inl x2), (3, .inl x3), (4, .inl x4), (5, .inl x5)] [] h (qI Q) := fun _ _ h z => z
  refine s_iload d_X12_changes_70 (ma 5 rfl) ?_
  refine s_iload_n d_X12_changes_72 rfl (ma 2 rfl) ?_
  refine s_icmp_gt (tgt := 187) d_X12_changes_73 (by decide) (fun c => ?_) (fun c => ?_)
  · have hV := hV.1 c
    obtain ⟨o, hV⟩ := hV
    refine s_iinc (lv' := [(3, .inl (x3 + 1)), (0, .inr (.inr x0)), (1, .inl x1), (2, .inl x2), (4, .inl x4), (5, .inl x5)]) d_X12_changes_187 (ma 3 rfl) o (Nat.le_of_ble_eq_true rfl) rfl ?_
    refine s_goto (tgt := 40) d_X12_changes_190 (by decide) ?_
    refine s_pick (lv' := [(0, .inr (.inr x0)), (1, .inl x1), (2, .inl x2), (3, .inl (x3 + 1))]) [1, 2, 3, 0] rfl ?_
    exact hP40 _ _ hV
  · have hV := hV.2 c
    refine s_iload d_X12_changes_76 (ma 4 rfl) ?_
    refine s_aload_n d_X12_changes_78 rfl (ma 0 rfl) ?_
    obtain ⟨o, hV⟩ := hV
    refine f_RX12_32g rfl d_X12_changes_79 o ?_
    refine s_iconst d_X12_changes_82 (okn rfl) ?_
    refine s_iload d_X12_changes_83 (ma 5 rfl) ?_
    obtain ⟨o, hV⟩ := hV
    refine s_iadd d_X12_changes_85 o ?_
    refine s_iconst d_X12_changes_86 (okn rfl) ?_
    obtain ⟨o, hV⟩ := hV
    refine s_isub d_X12_changes_87 o ?_
    obtain ⟨o, hV⟩ := hV
    refine s_iald d_X12_changes_88 o.1 o.2.1 o.2.2 ?_
    refine s_aload_n d_X12_changes_89 rfl (ma 0 rfl) ?_
    obtain ⟨o, hV⟩ := hV
    refine f_RX12_29g rfl d_X12_changes_90 o ?_
    refine s_bipush d_X12_changes_93 (by decide) (okn rfl) ?_
    refine s_iload_n d_X12_changes_95 rfl (ma 1 rfl) ?_
    obtain ⟨o, hV⟩ := hV
    refine s_imul d_X12_changes_96 o ?_
    refine s_iload_n d_X12_changes_97 rfl (ma 3 rfl) ?_
    obtain ⟨o, hV⟩ := hV
    refine s_iadd d_X12_changes_98 o ?_
    obtain ⟨o, hV⟩ := hV
    refine s_iald d_X12_changes_99 o.1 o.2.1 o.2.2 ?_
    refine s_icmp_ne (tgt := 107) d_X12_changes_100 (by decide) (fun c => ?_) (fun c => ?_)
    · have hV := hV.1 c
      refine s_iconst d_X12_changes_107 (okn rfl) ?_
      refine s_pick (lv' := [(0, .inr (.inr x0)), (1, .inl x1), (2, .inl x2), (3, .inl x3), (5, .inl x5)]) [0, 1, 2, 3, 5] rfl ?_
      exact GJ_X12_changes_108 _ _ _ _ _ _ _ _ _ (by intros; apply hP70; assumption) hV
    · have hV := hV.2 c
      refine s_iconst d_X12_changes_103 (okn rfl) ?_
      refine s_goto (tgt := 108) d_X12_changes_104 (by decide) ?_
      refine s_pick (lv' := [(0, .inr (.inr x0)), (1, .inl x1), (2, .inl x2), (3, .inl x3), (5, .inl x5)]) [0, 1, 2, 3, 5] rfl ?_
      exact GJ_X12_changes_108 _ _ _ _ _ _ _ _ _ (by intros; apply hP70; assumption) hV
def BLp_X12_changes_40 (x0 : Nat) (x1 : Int) (x2 : Int) (P40 : Int → Hp → Prop) (x3 : Int) (h : Hp) (Q : Int → Hp → Prop) : Prop :=
  hK h x0 = 11 ∧ ((hK h (hR h x0 12) = 12 ∧ (0 : Int) ≤ x1 ∧ x1 < hL h (hR h x0 12)) ∧ ((hI h (hR h x0 12) x1 ≤ x3 → (hK h x0 = 11 ∧ ((hK h (hR h x0 37) = 12 ∧ (0 : Int) ≤ x2 ∧ x2 < hL h (hR h x0 37)) ∧ (Q (hI h (hR h x0 37) x2) h)))) ∧ (¬ hI h (hR h x0 12) x1 ≤ x3 → (hK h x0 = 11 ∧ ((hK h (hR h x0 37) = 12 ∧ (0 : Int) ≤ 0 ∧ 0 < hL h (hR h x0 37)) ∧ (∀ x4_1 : Int, x4_1 = hI h (hR h x0 37) 0 → (hK h x0 = 11 ∧ (((-2147483648 : Int) ≤ x3 + 1 ∧ x3 + 1 ≤ (2147483647 : Int)) ∧ ((hK h (hR h x0 37) = 12 ∧ (0 : Int) ≤ 0 ∧ 0 < hL h (hR h x0 37)) ∧ ∀ h2 : Hp, h2 = wI h (hR h x0 37) 0 (x3 + 1) → (Lp_X12_changes_70 P40 x0 x1 x2 x3 x4_1 1 h2 Q))))))))))
def Lp_X12_changes_40 (x0 : Nat) (x1 : Int) (x2 : Int) (x3 : Int) (h : Hp) (Q : Int → Hp → Prop) : Prop := ∀ P40 : Int → Hp → Prop, (∀ (x3 : Int) (h : Hp), BLp_X12_changes_40 x0 x1 x2 P40 x3 h Q → P40 x3 h) → P40 x3 h
theorem Lp_X12_changes_40_ind {x0 : Nat} {x1 : Int} {x2 : Int} {Q : Int → Hp → Prop} (I : Int → Hp → Prop) (μ : Int → Hp → Nat) (hs : ∀ (P40 : Int → Hp → Prop) (x3 : Int) (h : Hp), I x3 h → (∀ (x3' : Int) (h' : Hp), I x3' h' → μ x3' h' < μ x3 h → P40 x3' h') → BLp_X12_changes_40 x0 x1 x2 P40 x3 h Q) : ∀ (x3 : Int) (h : Hp), I x3 h → Lp_X12_changes_40 x0 x1 x2 x3 h Q := by
  intro x3 h hI P40 hP
  have key : ∀ (n : Nat) (x3 : Int) (h : Hp), I x3 h → μ x3 h < n → P40 x3 h := by
    intro n
    induction n with
    | zero => intro x3 h _ hl; exact absurd hl (Nat.not_lt_zero _)
    | succ n ih => intro x3 h hi hl; exact hP x3 h (hs P40 x3 h hi (fun x3 h' hi' hl' => ih x3 h' hi' (by omega)))
  exact key _ x3 h hI (Nat.lt_succ_self _)
theorem GLp_X12_changes_40 (x0 : Nat) (x1 : Int) (x2 : Int) (x3 : Int) (h : Hp) (Q : Int → Hp → Prop) (hV : Lp_X12_changes_40 x0 x1 x2 x3 h Q) : Go i_X12_changes 40 [(0, .inr (.inr x0)), (1, .inl x1), (2, .inl x2), (3, .inl x3)] [] h (qI Q) := by
  refine hV (fun x3 h => Go i_X12_changes 40 [(0, .inr (.inr x0)), (1, .inl x1), (2, .inl x2), (3, .inl x3)] [] h (qI Q)) (fun x3 h hV => ?_)
  unfold BLp_X12_changes_40 at hV
  have hP40 : ∀ (x3 : Int) (h : Hp), Go i_X12_changes 40 [(0, .inr (.inr x0)), (1, .inl x1), (2, .inl x2), (3, .inl x3)] [] h (qI Q) → Go i_X12_changes 40 [(0, .inr (.inr x0)), (1, .inl x1), (2, .inl x2), (3, .inl x3)] [] h (qI Q) := fun _ h z => z
  refine s_iload_n d_X12_changes_40 rfl (ma 3 rfl) ?_
  refine s_aload_n d_X12_changes_41 rfl (ma 0 rfl) ?_
  obtain ⟨o, hV⟩ := hV
  refine f_RX12_26g rfl d_X12_changes_42 o ?_
  refine s_iload_n d_X12_changes_45 rfl (ma 1 rfl) ?_
  obtain ⟨o, hV⟩ := hV
  refine s_iald d_X12_changes_46 o.1 o.2.1 o.2.2 ?_
  refine s_icmp_ge (tgt := 193) d_X12_changes_47 (by decide) (fun c => ?_) (fun c => ?_)
  · have hV := hV.1 c
    refine s_aload_n d_X12_changes_193 rfl (ma 0 rfl) ?_
    obtain ⟨o, hV⟩ := hV
    refine f_RX12_81g rfl d_X12_changes_194 o ?_
    refine s_iload_n d_X12_changes_197 rfl (ma 2 rfl) ?_
    obtain ⟨o, hV⟩ := hV
    refine s_iald d_X12_changes_198 o.1 o.2.1 o.2.2 ?_
    exact s_iret d_X12_changes_199 rfl rfl ⟨_, rfl, hV⟩
  · have hV := hV.2 c
    refine s_aload_n d_X12_changes_50 rfl (ma 0 rfl) ?_
    obtain ⟨o, hV⟩ := hV
    refine f_RX12_81g rfl d_X12_changes_51 o ?_
    refine s_iconst d_X12_changes_54 (okn rfl) ?_
    obtain ⟨o, hV⟩ := hV
    refine s_iald d_X12_changes_55 o.1 o.2.1 o.2.2 ?_
    refine s_nmI (fun x4_1 ex4_1 => ?_)
    have hV := hV x4_1 ex4_1
    refine s_istore (lv' := [(4, .inl x4_1), (0, .inr (.inr x0)), (1, .inl x1), (2, .inl x2), (3, .inl x3)]) d_X12_changes_56 (Nat.le_of_ble_eq_true rfl) rfl ?_
    refine s_aload_n d_X12_changes_58 rfl (ma 1 rfl) ?_
    obtain ⟨o, hV⟩ := hV
    refine f_RX12_81g rfl d_X12_changes_59 o ?_
    refine s_iconst d_X12_changes_62 (okn rfl) ?_
    refine s_iload_n d_X12_changes_63 rfl (ma 4 rfl) ?_
    refine s_iconst d_X12_changes_64 (okn rfl) ?_
    obtain ⟨o, hV⟩ := hV
    refine s_iadd d_X12_changes_65 o ?_
    obtain ⟨o, hV⟩ := hV
    refine s_iast d_X12_changes_66 o.1 o.2.1 o.2.2 ?_
    refine s_nmH (fun h2 eh2 => ?_)
    have hV := hV h2 eh2
    refine s_iconst d_X12_changes_67 (okn rfl) ?_
    refine s_istore (lv' := [(5, .inl 1), (4, .inl x4_1), (0, .inr (.inr x0)), (1, .inl x1), (2, .inl x2), (3, .inl x3)]) d_X12_changes_68 (Nat.le_of_ble_eq_true rfl) rfl ?_
    refine s_pick (lv' := [(0, .inr (.inr x0)), (1, .inl x1), (2, .inl x2), (3, .inl x3), (4, .inl x4_1), (5, .inl 1)]) [2, 3, 4, 5, 1, 0] rfl ?_
    exact GLp_X12_changes_70 _ _ _ _ _ _ _ _ (by intros; apply hP40; assumption) hV
def BLp_X12_changes_20 (x0 : Nat) (x1 : Int) (x2 : Int) (P20 : Int → Hp → Prop) (x3 : Int) (h : Hp) (Q : Int → Hp → Prop) : Prop :=
  (x2 < x3 → (Lp_X12_changes_40 x0 x1 x2 0 h Q)) ∧ (¬ x2 < x3 → (hK h x0 = 11 ∧ ((hK h (hR h x0 37) = 12 ∧ (0 : Int) ≤ x3 ∧ x3 < hL h (hR h x0 37)) ∧ ∀ h1 : Hp, h1 = wI h (hR h x0 37) x3 x3 → (((-2147483648 : Int) ≤ x3 + 1 ∧ x3 + 1 ≤ (2147483647 : Int)) ∧ (P20 (x3 + 1) h1)))))
def Lp_X12_changes_20 (x0 : Nat) (x1 : Int) (x2 : Int) (x3 : Int) (h : Hp) (Q : Int → Hp → Prop) : Prop := ∀ P20 : Int → Hp → Prop, (∀ (x3 : Int) (h : Hp), BLp_X12_changes_20 x0 x1 x2 P20 x3 h Q → P20 x3 h) → P20 x3 h
theorem Lp_X12_changes_20_ind {x0 : Nat} {x1 : Int} {x2 : Int} {Q : Int → Hp → Prop} (I : Int → Hp → Prop) (μ : Int → Hp → Nat) (hs : ∀ (P20 : Int → Hp → Prop) (x3 : Int) (h : Hp), I x3 h → (∀ (x3' : Int) (h' : Hp), I x3' h' → μ x3' h' < μ x3 h → P20 x3' h') → BLp_X12_changes_20 x0 x1 x2 P20 x3 h Q) : ∀ (x3 : Int) (h : Hp), I x3 h → Lp_X12_changes_20 x0 x1 x2 x3 h Q := by
  intro x3 h hI P20 hP
  have key : ∀ (n : Nat) (x3 : Int) (h : Hp), I x3 h → μ x3 h < n → P20 x3 h := by
    intro n
    induction n with
    | zero => intro x3 h _ hl; exact absurd hl (Nat.not_lt_zero _)
    | succ n ih => intro x3 h hi hl; exact hP x3 h (hs P20 x3 h hi (fun x3 h' hi' hl' => ih x3 h' hi' (by omega)))
  exact key _ x3 h hI (Nat.lt_succ_self _)
theorem GLp_X12_changes_20 (x0 : Nat) (x1 : Int) (x2 : Int) (x3 : Int) (h : Hp) (Q : Int → Hp → Prop) (hV : Lp_X12_changes_20 x0 x1 x2 x3 h Q) : Go i_X12_changes 20 [(0, .inr (.inr x0)), (1, .inl x1), (2, .inl x2), (3, .inl x3)] [] h (qI Q) := by
  refine hV (fun x3 h => Go i_X12_changes 20 [(0, .inr (.inr x0)), (1, .inl x1), (2, .inl x2), (3, .inl x3)] [] h (qI Q)) (fun x3 h hV => ?_)
  unfold BLp_X12_changes_20 at hV
  have hP20 : ∀ (x3 : Int) (h : Hp), Go i_X12_changes 20 [(0, .inr (.inr x0)), (1, .inl x1), (2, .inl x2), (3, .inl x3)] [] h (qI Q) → Go i_X12_changes 20 [(0, .inr (.inr x0)), (1, .inl x1), (2, .inl x2), (3, .inl x3)] [] h (qI Q) := fun _ h z => z
  refine s_iload_n d_X12_changes_20 rfl (ma 3 rfl) ?_
  refine s_iload_n d_X12_changes_21 rfl (ma 2 rfl) ?_
  refine s_icmp_gt (tgt := 38) d_X12_changes_22 (by decide) (fun c => ?_) (fun c => ?_)
  · have hV := hV.1 c
    refine s_iconst d_X12_changes_38 (okn rfl) ?_
    refine s_istore_n (lv' := [(3, .inl 0), (0, .inr (.inr x0)), (1, .inl x1), (2, .inl x2)]) d_X12_changes_39 rfl (Nat.le_of_ble_eq_true rfl) rfl ?_
    refine s_pick (lv' := [(0, .inr (.inr x0)), (1, .inl x1), (2, .inl x2), (3, .inl 0)]) [1, 2, 3, 0] rfl ?_
    exact GLp_X12_changes_40 _ _ _ _ _ _ hV
  · have hV := hV.2 c
    refine s_aload_n d_X12_changes_25 rfl (ma 0 rfl) ?_
    obtain ⟨o, hV⟩ := hV
    refine f_RX12_81g rfl d_X12_changes_26 o ?_
    refine s_iload_n d_X12_changes_29 rfl (ma 3 rfl) ?_
    refine s_iload_n d_X12_changes_30 rfl (ma 3 rfl) ?_
    obtain ⟨o, hV⟩ := hV
    refine s_iast d_X12_changes_31 o.1 o.2.1 o.2.2 ?_
    refine s_nmH (fun h1 eh1 => ?_)
    have hV := hV h1 eh1
    obtain ⟨o, hV⟩ := hV
    refine s_iinc (lv' := [(3, .inl (x3 + 1)), (0, .inr (.inr x0)), (1, .inl x1), (2, .inl x2)]) d_X12_changes_32 (ma 3 rfl) o (Nat.le_of_ble_eq_true rfl) rfl ?_
    refine s_goto (tgt := 20) d_X12_changes_35 (by decide) ?_
    refine s_pick (lv' := [(0, .inr (.inr x0)), (1, .inl x1), (2, .inl x2), (3, .inl (x3 + 1))]) [1, 2, 3, 0] rfl ?_
    exact hP20 _ _ hV
def V_X12_changes (x0 : Nat) (x1 : Int) (h : Hp) (Q : Int → Hp → Prop) : Prop :=
  hK h x0 = 11 ∧ C_X12_isWord x0 x1 h (fun r2 h1 => ((r2 ≠ 0 → (hK h1 x0 = 11 ∧ ((hK h1 (hR h1 x0 14) = 12 ∧ (0 : Int) ≤ 0 ∧ 0 < hL h1 (hR h1 x0 14)) ∧ (∀ x2_3 : Int, x2_3 = hI h1 (hR h1 x0 14) 0 → (Lp_X12_changes_20 x0 x1 x2_3 0 h1 Q))))) ∧ (r2 = 0 → (Q (-1000000001) h1))))
theorem G_X12_changes {x0 : Nat} {x1 : Int} (h : Hp) (Q : Int → Hp → Prop) (hV : V_X12_changes x0 x1 h Q) : C_X12_changes x0 x1 h Q := by
  unfold V_X12_changes at hV
  show Go i_X12_changes 0 [(0, .inr (.inr x0)), (1, .inl x1)] [] h (qI Q)
  refine s_aload_n d_X12_changes_0 rfl (ma 0 rfl) ?_
  refine s_iload_n d_X12_changes_1 rfl (ma 1 rfl) ?_
  obtain ⟨o, hV⟩ := hV
  refine v_RX12_178 rfl (Nat.le_of_ble_eq_true rfl) d_X12_changes_2 o (Nat.le_of_ble_eq_true rfl) hV (fun r2 h1 hV => ?_)
  refine s_if_ne (tgt := 11) d_X12_changes_5 (by decide) (fun c => ?_) (fun c => ?_)
  · have hV := hV.1 c
    refine s_aload_n d_X12_changes_11 rfl (ma 0 rfl) ?_
    obtain ⟨o, hV⟩ := hV
    refine f_RX12_32g rfl d_X12_changes_12 o ?_
    refine s_iconst d_X12_changes_15 (okn rfl) ?_
    obtain ⟨o, hV⟩ := hV
    refine s_iald d_X12_changes_16 o.1 o.2.1 o.2.2 ?_
    refine s_nmI (fun x2_3 ex2_3 => ?_)
    have hV := hV x2_3 ex2_3
    refine s_istore_n (lv' := [(2, .inl x2_3), (0, .inr (.inr x0)), (1, .inl x1)]) d_X12_changes_17 rfl (Nat.le_of_ble_eq_true rfl) rfl ?_
    refine s_iconst d_X12_changes_18 (okn rfl) ?_
    refine s_istore_n (lv' := [(3, .inl 0), (2, .inl x2_3), (0, .inr (.inr x0)), (1, .inl x1)]) d_X12_changes_19 rfl (Nat.le_of_ble_eq_true rfl) rfl ?_
    refine s_pick (lv' := [(0, .inr (.inr x0)), (1, .inl x1), (2, .inl x2_3), (3, .inl 0)]) [2, 3, 1, 0] rfl ?_
    exact GLp_X12_changes_20 _ _ _ _ _ _ hV
  · have hV := hV.2 c
    refine s_ldc (n := (-1000000001)) d_X12_changes_8 k_RX12_181 (by decide) (okn rfl) ?_
    exact s_iret d_X12_changes_10 rfl rfl ⟨_, rfl, hV⟩

theorem d_X12_noSlip_0 : decode i_X12_noSlip.2.1 0 = .ok (.iload_n 1, 1) := by decide +kernel
theorem d_X12_noSlip_1 : decode i_X12_noSlip.2.1 1 = .ok (.iconst 0, 1) := by decide +kernel
theorem d_X12_noSlip_2 : decode i_X12_noSlip.2.1 2 = .ok (.bipush 60, 2) := by decide +kernel
theorem d_X12_noSlip_4 : decode i_X12_noSlip.2.1 4 = .ok (.invokestatic 90, 3) := by decide +kernel
theorem d_X12_noSlip_7 : decode i_X12_noSlip.2.1 7 = .ok (.ifCond .eq 13, 3) := by decide +kernel
theorem d_X12_noSlip_10 : decode i_X12_noSlip.2.1 10 = .ok (.iload_n 2, 1) := by decide +kernel
theorem d_X12_noSlip_11 : decode i_X12_noSlip.2.1 11 = .ok (.iconst 0, 1) := by decide +kernel
theorem d_X12_noSlip_12 : decode i_X12_noSlip.2.1 12 = .ok (.bipush 100, 2) := by decide +kernel
theorem d_X12_noSlip_14 : decode i_X12_noSlip.2.1 14 = .ok (.invokestatic 90, 3) := by decide +kernel
theorem d_X12_noSlip_17 : decode i_X12_noSlip.2.1 17 = .ok (.ifCond .ne 6, 3) := by decide +kernel
theorem d_X12_noSlip_20 : decode i_X12_noSlip.2.1 20 = .ok (.ldc 94, 2) := by decide +kernel
theorem d_X12_noSlip_22 : decode i_X12_noSlip.2.1 22 = .ok (.ireturn, 1) := by decide +kernel
theorem d_X12_noSlip_23 : decode i_X12_noSlip.2.1 23 = .ok (.ldc2_w 159, 3) := by decide +kernel
theorem d_X12_noSlip_26 : decode i_X12_noSlip.2.1 26 = .ok (.lstore_n 3, 1) := by decide +kernel
theorem d_X12_noSlip_27 : decode i_X12_noSlip.2.1 27 = .ok (.iconst 0, 1) := by decide +kernel
theorem d_X12_noSlip_28 : decode i_X12_noSlip.2.1 28 = .ok (.istore 5, 2) := by decide +kernel
theorem d_X12_noSlip_30 : decode i_X12_noSlip.2.1 30 = .ok (.iload 5, 2) := by decide +kernel
theorem d_X12_noSlip_32 : decode i_X12_noSlip.2.1 32 = .ok (.iload_n 1, 1) := by decide +kernel
theorem d_X12_noSlip_33 : decode i_X12_noSlip.2.1 33 = .ok (.if_icmp .ge 18, 3) := by decide +kernel
theorem d_X12_noSlip_36 : decode i_X12_noSlip.2.1 36 = .ok (.lload_n 3, 1) := by decide +kernel
theorem d_X12_noSlip_37 : decode i_X12_noSlip.2.1 37 = .ok (.iload_n 2, 1) := by decide +kernel
theorem d_X12_noSlip_38 : decode i_X12_noSlip.2.1 38 = .ok (.i2l, 1) := by decide +kernel
theorem d_X12_noSlip_39 : decode i_X12_noSlip.2.1 39 = .ok (.lmul, 1) := by decide +kernel
theorem d_X12_noSlip_40 : decode i_X12_noSlip.2.1 40 = .ok (.ldc2_w 266, 3) := by decide +kernel
theorem d_X12_noSlip_43 : decode i_X12_noSlip.2.1 43 = .ok (.ldiv, 1) := by decide +kernel
theorem d_X12_noSlip_44 : decode i_X12_noSlip.2.1 44 = .ok (.lstore_n 3, 1) := by decide +kernel
theorem d_X12_noSlip_45 : decode i_X12_noSlip.2.1 45 = .ok (.iinc 5 1, 3) := by decide +kernel
theorem d_X12_noSlip_48 : decode i_X12_noSlip.2.1 48 = .ok (.goto (-18), 3) := by decide +kernel
theorem d_X12_noSlip_51 : decode i_X12_noSlip.2.1 51 = .ok (.lload_n 3, 1) := by decide +kernel
theorem d_X12_noSlip_52 : decode i_X12_noSlip.2.1 52 = .ok (.l2i, 1) := by decide +kernel
theorem d_X12_noSlip_53 : decode i_X12_noSlip.2.1 53 = .ok (.ireturn, 1) := by decide +kernel
def BLp_X12_noSlip_30 (x1 : Int) (x2 : Int) (P30 : Int → Int → Hp → Prop) (x3 : Int) (x5 : Int) (h : Hp) (Q : Int → Hp → Prop) : Prop :=
  (x1 ≤ x5 → (((-2147483648 : Int) ≤ x3 ∧ x3 ≤ (2147483647 : Int)) ∧ (Q x3 h))) ∧ (¬ x1 ≤ x5 → (((-9223372036854775808 : Int) ≤ x3 * x2 ∧ x3 * x2 ≤ (9223372036854775807 : Int)) ∧ (((0 : Int) ≤ x3 * x2 ∧ (0 : Int) < 100) ∧ (∀ x3_1 : Int, x3_1 = (x3 * x2) / 100 → (((-2147483648 : Int) ≤ x5 + 1 ∧ x5 + 1 ≤ (2147483647 : Int)) ∧ (P30 x3_1 (x5 + 1) h))))))
def Lp_X12_noSlip_30 (x1 : Int) (x2 : Int) (x3 : Int) (x5 : Int) (h : Hp) (Q : Int → Hp → Prop) : Prop := ∀ P30 : Int → Int → Hp → Prop, (∀ (x3 : Int) (x5 : Int) (h : Hp), BLp_X12_noSlip_30 x1 x2 P30 x3 x5 h Q → P30 x3 x5 h) → P30 x3 x5 h
theorem Lp_X12_noSlip_30_ind {x1 : Int} {x2 : Int} {Q : Int → Hp → Prop} (I : Int → Int → Hp → Prop) (μ : Int → Int → Hp → Nat) (hs : ∀ (P30 : Int → Int → Hp → Prop) (x3 : Int) (x5 : Int) (h : Hp), I x3 x5 h → (∀ (x3' : Int) (x5' : Int) (h' : Hp), I x3' x5' h' → μ x3' x5' h' < μ x3 x5 h → P30 x3' x5' h') → BLp_X12_noSlip_30 x1 x2 P30 x3 x5 h Q) : ∀ (x3 : Int) (x5 : Int) (h : Hp), I x3 x5 h → Lp_X12_noSlip_30 x1 x2 x3 x5 h Q := by
  intro x3 x5 h hI P30 hP
  have key : ∀ (n : Nat) (x3 : Int) (x5 : Int) (h : Hp), I x3 x5 h → μ x3 x5 h < n → P30 x3 x5 h := by
    intro n
    induction n with
    | zero => intro x3 x5 h _ hl; exact absurd hl (Nat.not_lt_zero _)
    | succ n ih => intro x3 x5 h hi hl; exact hP x3 x5 h (hs P30 x3 x5 h hi (fun x3 x5 h' hi' hl' => ih x3 x5 h' hi' (by omega)))
  exact key _ x3 x5 h hI (Nat.lt_succ_self _)
theorem GLp_X12_noSlip_30 (x1 : Int) (x2 : Int) (x3 : Int) (x5 : Int) (h : Hp) (Q : Int → Hp → Prop) (hV : Lp_X12_noSlip_30 x1 x2 x3 x5 h Q) : Go i_X12_noSlip 30 [(1, .inl x1), (2, .inl x2), (3, .inr (.inl x3)), (5, .inl x5)] [] h (qI Q) := by
  refine hV (fun x3 x5 h => Go i_X12_noSlip 30 [(1, .inl x1), (2, .inl x2), (3, .inr (.inl x3)), (5, .inl x5)] [] h (qI Q)) (fun x3 x5 h hV => ?_)
  unfold BLp_X12_noSlip_30 at hV
  have hP30 : ∀ (x3 : Int) (x5 : Int) (h : Hp), Go i_X12_noSlip 30 [(1, .inl x1), (2, .inl x2), (3, .inr (.inl x3)), (5, .inl x5)] [] h (qI Q) → Go i_X12_noSlip 30 [(1, .inl x1), (2, .inl x2), (3, .inr (.inl x3)), (5, .inl x5)] [] h (qI Q) := fun _ _ h z => z
  refine s_iload d_X12_noSlip_30 (ma 3 rfl) ?_
  refine s_iload_n d_X12_noSlip_32 rfl (ma 0 rfl) ?_
  refine s_icmp_ge (tgt := 51) d_X12_noSlip_33 (by decide) (fun c => ?_) (fun c => ?_)
  · have hV := hV.1 c
    refine s_lload_n d_X12_noSlip_51 rfl (ma 2 rfl) ?_
    obtain ⟨o, hV⟩ := hV
    refine s_l2i d_X12_noSlip_52 o ?_
    exact s_iret d_X12_noSlip_53 rfl rfl ⟨_, rfl, hV⟩
  · have hV := hV.2 c
    refine s_lload_n d_X12_noSlip_36 rfl (ma 2 rfl) ?_
    refine s_iload_n d_X12_noSlip_37 rfl (ma 1 rfl) ?_
    refine s_i2l d_X12_noSlip_38 ?_
    obtain ⟨o, hV⟩ := hV
    refine s_lmul d_X12_noSlip_39 o ?_
    refine s_ldc2 (n := 100) d_X12_noSlip_40 k_RX12_266 (by decide) (okln rfl) ?_
    obtain ⟨o, hV⟩ := hV
    refine s_ldiv d_X12_noSlip_43 o.1 o.2 ?_
    refine s_nmJ (fun x3_1 ex3_1 => ?_)
    have hV := hV x3_1 ex3_1
    refine s_lstore_n (lv' := [(3, .inr (.inl x3_1)), (1, .inl x1), (2, .inl x2), (5, .inl x5)]) d_X12_noSlip_44 rfl (Nat.le_of_ble_eq_true rfl) rfl ?_
    obtain ⟨o, hV⟩ := hV
    refine s_iinc (lv' := [(5, .inl (x5 + 1)), (3, .inr (.inl x3_1)), (1, .inl x1), (2, .inl x2)]) d_X12_noSlip_45 (ma 3 rfl) o (Nat.le_of_ble_eq_true rfl) rfl ?_
    refine s_goto (tgt := 30) d_X12_noSlip_48 (by decide) ?_
    refine s_pick (lv' := [(1, .inl x1), (2, .inl x2), (3, .inr (.inl x3_1)), (5, .inl (x5 + 1))]) [2, 3, 1, 0] rfl ?_
    exact hP30 _ _ _ hV
def V_X12_noSlip (x0 : Nat) (x1 : Int) (x2 : Int) (h : Hp) (Q : Int → Hp → Prop) : Prop :=
  C_X12_is x1 0 60 h (fun r2 h1 => ((r2 = 0 → (Q (-1000000002) h1)) ∧ (¬ r2 = 0 → (C_X12_is x2 0 100 h1 (fun r4 h3 => ((r4 ≠ 0 → (Lp_X12_noSlip_30 x1 x2 1000000000 0 h3 Q)) ∧ (r4 = 0 → (Q (-1000000002) h3))))))))
theorem G_X12_noSlip {x0 : Nat} {x1 : Int} {x2 : Int} (h : Hp) (Q : Int → Hp → Prop) (hV : V_X12_noSlip x0 x1 x2 h Q) : C_X12_noSlip x0 x1 x2 h Q := by
  unfold V_X12_noSlip at hV
  show Go i_X12_noSlip 0 [(0, .inr (.inr x0)), (1, .inl x1), (2, .inl x2)] [] h (qI Q)
  refine s_iload_n d_X12_noSlip_0 rfl (ma 1 rfl) ?_
  refine s_iconst d_X12_noSlip_1 (okn rfl) ?_
  refine s_bipush d_X12_noSlip_2 (by decide) (okn rfl) ?_
  refine v_RX12_90 rfl (Nat.le_of_ble_eq_true rfl) d_X12_noSlip_4 (Nat.le_of_ble_eq_true rfl) hV (fun r2 h1 hV => ?_)
  refine s_if_eq (tgt := 20) d_X12_noSlip_7 (by decide) (fun c => ?_) (fun c => ?_)
  · have hV := hV.1 c
    refine s_ldc (n := (-1000000002)) d_X12_noSlip_20 k_RX12_94 (by decide) (okn rfl) ?_
    exact s_iret d_X12_noSlip_22 rfl rfl ⟨_, rfl, hV⟩
  · have hV := hV.2 c
    refine s_iload_n d_X12_noSlip_10 rfl (ma 2 rfl) ?_
    refine s_iconst d_X12_noSlip_11 (okn rfl) ?_
    refine s_bipush d_X12_noSlip_12 (by decide) (okn rfl) ?_
    refine v_RX12_90 rfl (Nat.le_of_ble_eq_true rfl) d_X12_noSlip_14 (Nat.le_of_ble_eq_true rfl) hV (fun r4 h3 hV => ?_)
    refine s_if_ne (tgt := 23) d_X12_noSlip_17 (by decide) (fun c => ?_) (fun c => ?_)
    · have hV := hV.1 c
      refine s_ldc2 (n := 1000000000) d_X12_noSlip_23 k_RX12_159 (by decide) (okln rfl) ?_
      refine s_lstore_n (lv' := [(3, .inr (.inl 1000000000)), (0, .inr (.inr x0)), (1, .inl x1), (2, .inl x2)]) d_X12_noSlip_26 rfl (Nat.le_of_ble_eq_true rfl) rfl ?_
      refine s_iconst d_X12_noSlip_27 (okn rfl) ?_
      refine s_istore (lv' := [(5, .inl 0), (3, .inr (.inl 1000000000)), (0, .inr (.inr x0)), (1, .inl x1), (2, .inl x2)]) d_X12_noSlip_28 (Nat.le_of_ble_eq_true rfl) rfl ?_
      refine s_pick (lv' := [(1, .inl x1), (2, .inl x2), (3, .inr (.inl 1000000000)), (5, .inl 0)]) [3, 4, 1, 0] rfl ?_
      exact GLp_X12_noSlip_30 _ _ _ _ _ _ hV
    · have hV := hV.2 c
      refine s_ldc (n := (-1000000002)) d_X12_noSlip_20 k_RX12_94 (by decide) (okn rfl) ?_
      exact s_iret d_X12_noSlip_22 rfl rfl ⟨_, rfl, hV⟩

theorem d_X12_hear_0 : decode i_X12_hear.2.1 0 = .ok (.aload_n 0, 1) := by decide +kernel
theorem d_X12_hear_1 : decode i_X12_hear.2.1 1 = .ok (.iload_n 1, 1) := by decide +kernel
theorem d_X12_hear_2 : decode i_X12_hear.2.1 2 = .ok (.invokevirtual 178, 3) := by decide +kernel
theorem d_X12_hear_5 : decode i_X12_hear.2.1 5 = .ok (.ifCond .eq 11, 3) := by decide +kernel
theorem d_X12_hear_8 : decode i_X12_hear.2.1 8 = .ok (.aload_n 0, 1) := by decide +kernel
theorem d_X12_hear_9 : decode i_X12_hear.2.1 9 = .ok (.iload_n 2, 1) := by decide +kernel
theorem d_X12_hear_10 : decode i_X12_hear.2.1 10 = .ok (.invokevirtual 178, 3) := by decide +kernel
theorem d_X12_hear_13 : decode i_X12_hear.2.1 13 = .ok (.ifCond .ne 6, 3) := by decide +kernel
theorem d_X12_hear_16 : decode i_X12_hear.2.1 16 = .ok (.ldc 181, 2) := by decide +kernel
theorem d_X12_hear_18 : decode i_X12_hear.2.1 18 = .ok (.ireturn, 1) := by decide +kernel
theorem d_X12_hear_19 : decode i_X12_hear.2.1 19 = .ok (.aload_n 0, 1) := by decide +kernel
theorem d_X12_hear_20 : decode i_X12_hear.2.1 20 = .ok (.getfield 146, 3) := by decide +kernel
theorem d_X12_hear_23 : decode i_X12_hear.2.1 23 = .ok (.bipush 6, 2) := by decide +kernel
theorem d_X12_hear_25 : decode i_X12_hear.2.1 25 = .ok (.if_icmp .ne 6, 3) := by decide +kernel
theorem d_X12_hear_28 : decode i_X12_hear.2.1 28 = .ok (.ldc 98, 2) := by decide +kernel
theorem d_X12_hear_30 : decode i_X12_hear.2.1 30 = .ok (.ireturn, 1) := by decide +kernel
theorem d_X12_hear_31 : decode i_X12_hear.2.1 31 = .ok (.aload_n 0, 1) := by decide +kernel
theorem d_X12_hear_32 : decode i_X12_hear.2.1 32 = .ok (.getfield 48, 3) := by decide +kernel
theorem d_X12_hear_35 : decode i_X12_hear.2.1 35 = .ok (.aload_n 0, 1) := by decide +kernel
theorem d_X12_hear_36 : decode i_X12_hear.2.1 36 = .ok (.getfield 146, 3) := by decide +kernel
theorem d_X12_hear_39 : decode i_X12_hear.2.1 39 = .ok (.iload_n 1, 1) := by decide +kernel
theorem d_X12_hear_40 : decode i_X12_hear.2.1 40 = .ok (.iastore, 1) := by decide +kernel
theorem d_X12_hear_41 : decode i_X12_hear.2.1 41 = .ok (.aload_n 0, 1) := by decide +kernel
theorem d_X12_hear_42 : decode i_X12_hear.2.1 42 = .ok (.getfield 51, 3) := by decide +kernel
theorem d_X12_hear_45 : decode i_X12_hear.2.1 45 = .ok (.aload_n 0, 1) := by decide +kernel
theorem d_X12_hear_46 : decode i_X12_hear.2.1 46 = .ok (.getfield 146, 3) := by decide +kernel
theorem d_X12_hear_49 : decode i_X12_hear.2.1 49 = .ok (.iload_n 2, 1) := by decide +kernel
theorem d_X12_hear_50 : decode i_X12_hear.2.1 50 = .ok (.iastore, 1) := by decide +kernel
theorem d_X12_hear_51 : decode i_X12_hear.2.1 51 = .ok (.aload_n 0, 1) := by decide +kernel
theorem d_X12_hear_52 : decode i_X12_hear.2.1 52 = .ok (.getfield 54, 3) := by decide +kernel
theorem d_X12_hear_55 : decode i_X12_hear.2.1 55 = .ok (.aload_n 0, 1) := by decide +kernel
theorem d_X12_hear_56 : decode i_X12_hear.2.1 56 = .ok (.getfield 146, 3) := by decide +kernel
theorem d_X12_hear_59 : decode i_X12_hear.2.1 59 = .ok (.iload_n 3, 1) := by decide +kernel
theorem d_X12_hear_60 : decode i_X12_hear.2.1 60 = .ok (.bastore, 1) := by decide +kernel
theorem d_X12_hear_61 : decode i_X12_hear.2.1 61 = .ok (.aload_n 0, 1) := by decide +kernel
theorem d_X12_hear_62 : decode i_X12_hear.2.1 62 = .ok (.dup, 1) := by decide +kernel
theorem d_X12_hear_63 : decode i_X12_hear.2.1 63 = .ok (.getfield 146, 3) := by decide +kernel
theorem d_X12_hear_66 : decode i_X12_hear.2.1 66 = .ok (.iconst 1, 1) := by decide +kernel
theorem d_X12_hear_67 : decode i_X12_hear.2.1 67 = .ok (.iadd, 1) := by decide +kernel
theorem d_X12_hear_68 : decode i_X12_hear.2.1 68 = .ok (.putfield 146, 3) := by decide +kernel
theorem d_X12_hear_71 : decode i_X12_hear.2.1 71 = .ok (.aload_n 0, 1) := by decide +kernel
theorem d_X12_hear_72 : decode i_X12_hear.2.1 72 = .ok (.getfield 146, 3) := by decide +kernel
theorem d_X12_hear_75 : decode i_X12_hear.2.1 75 = .ok (.ireturn, 1) := by decide +kernel
def V_X12_hear (x0 : Nat) (x1 : Int) (x2 : Int) (x3 : Int) (h : Hp) (Q : Int → Hp → Prop) : Prop :=
  hK h x0 = 11 ∧ C_X12_isWord x0 x1 h (fun r2 h1 => ((r2 = 0 → (Q (-1000000001) h1)) ∧ (¬ r2 = 0 → (hK h1 x0 = 11 ∧ C_X12_isWord x0 x2 h1 (fun r4 h3 => ((r4 ≠ 0 → (hK h3 x0 = 11 ∧ ((hI h3 x0 21 ≠ 6 → (hK h3 x0 = 11 ∧ (hK h3 x0 = 11 ∧ ((hK h3 (hR h3 x0 22) = 12 ∧ (0 : Int) ≤ hI h3 x0 21 ∧ hI h3 x0 21 < hL h3 (hR h3 x0 22)) ∧ ∀ h5 : Hp, h5 = wI h3 (hR h3 x0 22) (hI h3 x0 21) x1 → (hK h5 x0 = 11 ∧ (hK h5 x0 = 11 ∧ ((hK h5 (hR h5 x0 23) = 12 ∧ (0 : Int) ≤ hI h5 x0 21 ∧ hI h5 x0 21 < hL h5 (hR h5 x0 23)) ∧ ∀ h6 : Hp, h6 = wI h5 (hR h5 x0 23) (hI h5 x0 21) x2 → (hK h6 x0 = 11 ∧ (hK h6 x0 = 11 ∧ ((hK h6 (hR h6 x0 24) = 15 ∧ (0 : Int) ≤ hI h6 x0 21 ∧ hI h6 x0 21 < hL h6 (hR h6 x0 24) ∧ ((x3 : Int) = 0 ∨ (x3 : Int) = 1)) ∧ ∀ h7 : Hp, h7 = wI h6 (hR h6 x0 24) (hI h6 x0 21) x3 → (hK h7 x0 = 11 ∧ (((-2147483648 : Int) ≤ (hI h7 x0 21) + 1 ∧ (hI h7 x0 21) + 1 ≤ (2147483647 : Int)) ∧ (hK h7 x0 = 11 ∧ ∀ h8 : Hp, h8 = wI h7 x0 21 ((hI h7 x0 21) + 1) → (hK h8 x0 = 11 ∧ (Q (hI h8 x0 21) h8))))))))))))))) ∧ (hI h3 x0 21 = 6 → (Q (-1000000004) h3))))) ∧ (r4 = 0 → (Q (-1000000001) h3))))))))
theorem G_X12_hear {x0 : Nat} {x1 : Int} {x2 : Int} {x3 : Int} (h : Hp) (Q : Int → Hp → Prop) (hV : V_X12_hear x0 x1 x2 x3 h Q) : C_X12_hear x0 x1 x2 x3 h Q := by
  unfold V_X12_hear at hV
  show Go i_X12_hear 0 [(0, .inr (.inr x0)), (1, .inl x1), (2, .inl x2), (3, .inl x3)] [] h (qI Q)
  refine s_aload_n d_X12_hear_0 rfl (ma 0 rfl) ?_
  refine s_iload_n d_X12_hear_1 rfl (ma 1 rfl) ?_
  obtain ⟨o, hV⟩ := hV
  refine v_RX12_178 rfl (Nat.le_of_ble_eq_true rfl) d_X12_hear_2 o (Nat.le_of_ble_eq_true rfl) hV (fun r2 h1 hV => ?_)
  refine s_if_eq (tgt := 16) d_X12_hear_5 (by decide) (fun c => ?_) (fun c => ?_)
  · have hV := hV.1 c
    refine s_ldc (n := (-1000000001)) d_X12_hear_16 k_RX12_181 (by decide) (okn rfl) ?_
    exact s_iret d_X12_hear_18 rfl rfl ⟨_, rfl, hV⟩
  · have hV := hV.2 c
    refine s_aload_n d_X12_hear_8 rfl (ma 0 rfl) ?_
    refine s_iload_n d_X12_hear_9 rfl (ma 2 rfl) ?_
    obtain ⟨o, hV⟩ := hV
    refine v_RX12_178 rfl (Nat.le_of_ble_eq_true rfl) d_X12_hear_10 o (Nat.le_of_ble_eq_true rfl) hV (fun r4 h3 hV => ?_)
    refine s_if_ne (tgt := 19) d_X12_hear_13 (by decide) (fun c => ?_) (fun c => ?_)
    · have hV := hV.1 c
      refine s_aload_n d_X12_hear_19 rfl (ma 0 rfl) ?_
      obtain ⟨o, hV⟩ := hV
      refine f_RX12_146g rfl d_X12_hear_20 o ?_
      refine s_bipush d_X12_hear_23 (by decide) (okn rfl) ?_
      refine s_icmp_ne (tgt := 31) d_X12_hear_25 (by decide) (fun c => ?_) (fun c => ?_)
      · have hV := hV.1 c
        refine s_aload_n d_X12_hear_31 rfl (ma 0 rfl) ?_
        obtain ⟨o, hV⟩ := hV
        refine f_RX12_48g rfl d_X12_hear_32 o ?_
        refine s_aload_n d_X12_hear_35 rfl (ma 0 rfl) ?_
        obtain ⟨o, hV⟩ := hV
        refine f_RX12_146g rfl d_X12_hear_36 o ?_
        refine s_iload_n d_X12_hear_39 rfl (ma 1 rfl) ?_
        obtain ⟨o, hV⟩ := hV
        refine s_iast d_X12_hear_40 o.1 o.2.1 o.2.2 ?_
        refine s_nmH (fun h5 eh5 => ?_)
        have hV := hV h5 eh5
        refine s_aload_n d_X12_hear_41 rfl (ma 0 rfl) ?_
        obtain ⟨o, hV⟩ := hV
        refine f_RX12_51g rfl d_X12_hear_42 o ?_
        refine s_aload_n d_X12_hear_45 rfl (ma 0 rfl) ?_
        obtain ⟨o, hV⟩ := hV
        refine f_RX12_146g rfl d_X12_hear_46 o ?_
        refine s_iload_n d_X12_hear_49 rfl (ma 2 rfl) ?_
        obtain ⟨o, hV⟩ := hV
        refine s_iast d_X12_hear_50 o.1 o.2.1 o.2.2 ?_
        refine s_nmH (fun h6 eh6 => ?_)
        have hV := hV h6 eh6
        refine s_aload_n d_X12_hear_51 rfl (ma 0 rfl) ?_
        obtain ⟨o, hV⟩ := hV
        refine f_RX12_54g rfl d_X12_hear_52 o ?_
        refine s_aload_n d_X12_hear_55 rfl (ma 0 rfl) ?_
        obtain ⟨o, hV⟩ := hV
        refine f_RX12_146g rfl d_X12_hear_56 o ?_
        refine s_iload_n d_X12_hear_59 rfl (ma 3 rfl) ?_
        obtain ⟨o, hV⟩ := hV
        refine s_zast d_X12_hear_60 o.1 o.2.1 o.2.2.1 o.2.2.2 ?_
        refine s_nmH (fun h7 eh7 => ?_)
        have hV := hV h7 eh7
        refine s_aload_n d_X12_hear_61 rfl (ma 0 rfl) ?_
        refine s_dup d_X12_hear_62 rfl ?_
        obtain ⟨o, hV⟩ := hV
        refine f_RX12_146g rfl d_X12_hear_63 o ?_
        refine s_iconst d_X12_hear_66 (okn rfl) ?_
        obtain ⟨o, hV⟩ := hV
        refine s_iadd d_X12_hear_67 o ?_
        obtain ⟨o, hV⟩ := hV
        refine f_RX12_146p rfl d_X12_hear_68 o (fun h8 eh8 => ?_)
        have hV := hV h8 eh8
        refine s_aload_n d_X12_hear_71 rfl (ma 0 rfl) ?_
        obtain ⟨o, hV⟩ := hV
        refine f_RX12_146g rfl d_X12_hear_72 o ?_
        exact s_iret d_X12_hear_75 rfl rfl ⟨_, rfl, hV⟩
      · have hV := hV.2 c
        refine s_ldc (n := (-1000000004)) d_X12_hear_28 k_RX12_98 (by decide) (okn rfl) ?_
        exact s_iret d_X12_hear_30 rfl rfl ⟨_, rfl, hV⟩
    · have hV := hV.2 c
      refine s_ldc (n := (-1000000001)) d_X12_hear_16 k_RX12_181 (by decide) (okn rfl) ?_
      exact s_iret d_X12_hear_18 rfl rfl ⟨_, rfl, hV⟩

theorem d_X12_readWord_0 : decode i_X12_readWord.2.1 0 = .ok (.aload_n 0, 1) := by decide +kernel
theorem d_X12_readWord_1 : decode i_X12_readWord.2.1 1 = .ok (.aload_n 0, 1) := by decide +kernel
theorem d_X12_readWord_2 : decode i_X12_readWord.2.1 2 = .ok (.getfield 26, 3) := by decide +kernel
theorem d_X12_readWord_5 : decode i_X12_readWord.2.1 5 = .ok (.iload_n 1, 1) := by decide +kernel
theorem d_X12_readWord_6 : decode i_X12_readWord.2.1 6 = .ok (.iaload, 1) := by decide +kernel
theorem d_X12_readWord_7 : decode i_X12_readWord.2.1 7 = .ok (.putfield 186, 3) := by decide +kernel
theorem d_X12_readWord_10 : decode i_X12_readWord.2.1 10 = .ok (.aload_n 0, 1) := by decide +kernel
theorem d_X12_readWord_11 : decode i_X12_readWord.2.1 11 = .ok (.getfield 29, 3) := by decide +kernel
theorem d_X12_readWord_14 : decode i_X12_readWord.2.1 14 = .ok (.bipush 8, 2) := by decide +kernel
theorem d_X12_readWord_16 : decode i_X12_readWord.2.1 16 = .ok (.iload_n 1, 1) := by decide +kernel
theorem d_X12_readWord_17 : decode i_X12_readWord.2.1 17 = .ok (.imul, 1) := by decide +kernel
theorem d_X12_readWord_18 : decode i_X12_readWord.2.1 18 = .ok (.aload_n 0, 1) := by decide +kernel
theorem d_X12_readWord_19 : decode i_X12_readWord.2.1 19 = .ok (.getfield 63, 3) := by decide +kernel
theorem d_X12_readWord_22 : decode i_X12_readWord.2.1 22 = .ok (.iconst 0, 1) := by decide +kernel
theorem d_X12_readWord_23 : decode i_X12_readWord.2.1 23 = .ok (.aload_n 0, 1) := by decide +kernel
theorem d_X12_readWord_24 : decode i_X12_readWord.2.1 24 = .ok (.getfield 186, 3) := by decide +kernel
theorem d_X12_readWord_27 : decode i_X12_readWord.2.1 27 = .ok (.invokestatic 136, 3) := by decide +kernel
theorem d_X12_readWord_30 : decode i_X12_readWord.2.1 30 = .ok (.aload_n 0, 1) := by decide +kernel
theorem d_X12_readWord_31 : decode i_X12_readWord.2.1 31 = .ok (.iload_n 2, 1) := by decide +kernel
theorem d_X12_readWord_32 : decode i_X12_readWord.2.1 32 = .ok (.invokevirtual 208, 3) := by decide +kernel
theorem d_X12_readWord_35 : decode i_X12_readWord.2.1 35 = .ok (.return_, 1) := by decide +kernel
def V_X12_readWord (x0 : Nat) (x1 : Int) (x2 : Int) (h : Hp) (Q : Hp → Prop) : Prop :=
  hK h x0 = 11 ∧ ((hK h (hR h x0 12) = 12 ∧ (0 : Int) ≤ x1 ∧ x1 < hL h (hR h x0 12)) ∧ (hK h x0 = 11 ∧ ∀ h1 : Hp, h1 = wI h x0 29 (hI h (hR h x0 12) x1) → (hK h1 x0 = 11 ∧ (((-2147483648 : Int) ≤ 8 * x1 ∧ 8 * x1 ≤ (2147483647 : Int)) ∧ (hK h1 x0 = 11 ∧ (hK h1 x0 = 11 ∧ (C_X12_bring (hR h1 x0 13) (8 * x1) (hR h1 x0 28) 0 (hI h1 x0 29) h1 (fun h2 => (hK h2 x0 = 11 ∧ C_X12_reads x0 x2 h2 (fun h3 => (Q h3)))))))))))
theorem G_X12_readWord {x0 : Nat} {x1 : Int} {x2 : Int} (h : Hp) (Q : Hp → Prop) (hV : V_X12_readWord x0 x1 x2 h Q) : C_X12_readWord x0 x1 x2 h Q := by
  unfold V_X12_readWord at hV
  show Go i_X12_readWord 0 [(0, .inr (.inr x0)), (1, .inl x1), (2, .inl x2)] [] h (qV Q)
  refine s_aload_n d_X12_readWord_0 rfl (ma 0 rfl) ?_
  refine s_aload_n d_X12_readWord_1 rfl (ma 0 rfl) ?_
  obtain ⟨o, hV⟩ := hV
  refine f_RX12_26g rfl d_X12_readWord_2 o ?_
  refine s_iload_n d_X12_readWord_5 rfl (ma 1 rfl) ?_
  obtain ⟨o, hV⟩ := hV
  refine s_iald d_X12_readWord_6 o.1 o.2.1 o.2.2 ?_
  obtain ⟨o, hV⟩ := hV
  refine f_RX12_186p rfl d_X12_readWord_7 o (fun h1 eh1 => ?_)
  have hV := hV h1 eh1
  refine s_aload_n d_X12_readWord_10 rfl (ma 0 rfl) ?_
  obtain ⟨o, hV⟩ := hV
  refine f_RX12_29g rfl d_X12_readWord_11 o ?_
  refine s_bipush d_X12_readWord_14 (by decide) (okn rfl) ?_
  refine s_iload_n d_X12_readWord_16 rfl (ma 1 rfl) ?_
  obtain ⟨o, hV⟩ := hV
  refine s_imul d_X12_readWord_17 o ?_
  refine s_aload_n d_X12_readWord_18 rfl (ma 0 rfl) ?_
  obtain ⟨o, hV⟩ := hV
  refine f_RX12_63g rfl d_X12_readWord_19 o ?_
  refine s_iconst d_X12_readWord_22 (okn rfl) ?_
  refine s_aload_n d_X12_readWord_23 rfl (ma 0 rfl) ?_
  obtain ⟨o, hV⟩ := hV
  refine f_RX12_186g rfl d_X12_readWord_24 o ?_
  refine v_RX12_136 rfl (Nat.le_of_ble_eq_true rfl) d_X12_readWord_27 (Nat.le_of_ble_eq_true rfl) hV (fun h2 hV => ?_)
  refine s_aload_n d_X12_readWord_30 rfl (ma 0 rfl) ?_
  refine s_iload_n d_X12_readWord_31 rfl (ma 2 rfl) ?_
  obtain ⟨o, hV⟩ := hV
  refine v_RX12_208 rfl (Nat.le_of_ble_eq_true rfl) d_X12_readWord_32 o (Nat.le_of_ble_eq_true rfl) hV (fun h3 hV => ?_)
  exact s_vret d_X12_readWord_35 rfl ⟨rfl, hV⟩

theorem d_X12_isSaid_0 : decode i_X12_isSaid.2.1 0 = .ok (.aload_n 0, 1) := by decide +kernel
theorem d_X12_isSaid_1 : decode i_X12_isSaid.2.1 1 = .ok (.getfield 186, 3) := by decide +kernel
theorem d_X12_isSaid_4 : decode i_X12_isSaid.2.1 4 = .ok (.aload_n 0, 1) := by decide +kernel
theorem d_X12_isSaid_5 : decode i_X12_isSaid.2.1 5 = .ok (.getfield 26, 3) := by decide +kernel
theorem d_X12_isSaid_8 : decode i_X12_isSaid.2.1 8 = .ok (.iload_n 1, 1) := by decide +kernel
theorem d_X12_isSaid_9 : decode i_X12_isSaid.2.1 9 = .ok (.iaload, 1) := by decide +kernel
theorem d_X12_isSaid_10 : decode i_X12_isSaid.2.1 10 = .ok (.if_icmp .ne 7, 3) := by decide +kernel
theorem d_X12_isSaid_13 : decode i_X12_isSaid.2.1 13 = .ok (.iconst 1, 1) := by decide +kernel
theorem d_X12_isSaid_14 : decode i_X12_isSaid.2.1 14 = .ok (.goto 4, 3) := by decide +kernel
theorem d_X12_isSaid_17 : decode i_X12_isSaid.2.1 17 = .ok (.iconst 0, 1) := by decide +kernel
theorem d_X12_isSaid_18 : decode i_X12_isSaid.2.1 18 = .ok (.istore_n 2, 1) := by decide +kernel
theorem d_X12_isSaid_19 : decode i_X12_isSaid.2.1 19 = .ok (.iconst 0, 1) := by decide +kernel
theorem d_X12_isSaid_20 : decode i_X12_isSaid.2.1 20 = .ok (.istore_n 3, 1) := by decide +kernel
theorem d_X12_isSaid_21 : decode i_X12_isSaid.2.1 21 = .ok (.iload_n 3, 1) := by decide +kernel
theorem d_X12_isSaid_22 : decode i_X12_isSaid.2.1 22 = .ok (.aload_n 0, 1) := by decide +kernel
theorem d_X12_isSaid_23 : decode i_X12_isSaid.2.1 23 = .ok (.getfield 186, 3) := by decide +kernel
theorem d_X12_isSaid_26 : decode i_X12_isSaid.2.1 26 = .ok (.if_icmp .ge 39, 3) := by decide +kernel
theorem d_X12_isSaid_29 : decode i_X12_isSaid.2.1 29 = .ok (.iload_n 2, 1) := by decide +kernel
theorem d_X12_isSaid_30 : decode i_X12_isSaid.2.1 30 = .ok (.ifCond .eq 35, 3) := by decide +kernel
theorem d_X12_isSaid_33 : decode i_X12_isSaid.2.1 33 = .ok (.aload_n 0, 1) := by decide +kernel
theorem d_X12_isSaid_34 : decode i_X12_isSaid.2.1 34 = .ok (.getfield 63, 3) := by decide +kernel
theorem d_X12_isSaid_37 : decode i_X12_isSaid.2.1 37 = .ok (.iload_n 3, 1) := by decide +kernel
theorem d_X12_isSaid_38 : decode i_X12_isSaid.2.1 38 = .ok (.iaload, 1) := by decide +kernel
theorem d_X12_isSaid_39 : decode i_X12_isSaid.2.1 39 = .ok (.aload_n 0, 1) := by decide +kernel
theorem d_X12_isSaid_40 : decode i_X12_isSaid.2.1 40 = .ok (.getfield 29, 3) := by decide +kernel
theorem d_X12_isSaid_43 : decode i_X12_isSaid.2.1 43 = .ok (.bipush 8, 2) := by decide +kernel
theorem d_X12_isSaid_45 : decode i_X12_isSaid.2.1 45 = .ok (.iload_n 1, 1) := by decide +kernel
theorem d_X12_isSaid_46 : decode i_X12_isSaid.2.1 46 = .ok (.imul, 1) := by decide +kernel
theorem d_X12_isSaid_47 : decode i_X12_isSaid.2.1 47 = .ok (.iload_n 3, 1) := by decide +kernel
theorem d_X12_isSaid_48 : decode i_X12_isSaid.2.1 48 = .ok (.iadd, 1) := by decide +kernel
theorem d_X12_isSaid_49 : decode i_X12_isSaid.2.1 49 = .ok (.iaload, 1) := by decide +kernel
theorem d_X12_isSaid_50 : decode i_X12_isSaid.2.1 50 = .ok (.if_icmp .ne 7, 3) := by decide +kernel
theorem d_X12_isSaid_53 : decode i_X12_isSaid.2.1 53 = .ok (.iconst 1, 1) := by decide +kernel
theorem d_X12_isSaid_54 : decode i_X12_isSaid.2.1 54 = .ok (.goto 4, 3) := by decide +kernel
theorem d_X12_isSaid_57 : decode i_X12_isSaid.2.1 57 = .ok (.iconst 0, 1) := by decide +kernel
theorem d_X12_isSaid_58 : decode i_X12_isSaid.2.1 58 = .ok (.istore_n 2, 1) := by decide +kernel
theorem d_X12_isSaid_59 : decode i_X12_isSaid.2.1 59 = .ok (.iinc 3 1, 3) := by decide +kernel
theorem d_X12_isSaid_62 : decode i_X12_isSaid.2.1 62 = .ok (.goto (-41), 3) := by decide +kernel
theorem d_X12_isSaid_65 : decode i_X12_isSaid.2.1 65 = .ok (.iload_n 2, 1) := by decide +kernel
theorem d_X12_isSaid_66 : decode i_X12_isSaid.2.1 66 = .ok (.ireturn, 1) := by decide +kernel
def BLp_X12_isSaid_21 (x0 : Nat) (x1 : Int) (P21 : Int → Int → Hp → Prop) (x2 : Int) (x3 : Int) (h : Hp) (Q : Int → Hp → Prop) : Prop :=
  hK h x0 = 11 ∧ ((hI h x0 29 ≤ x3 → (((x2 : Int) = 0 ∨ (x2 : Int) = 1) ∧ Q x2 h)) ∧ (¬ hI h x0 29 ≤ x3 → ((x2 = 0 → (((x2 : Int) = 0 ∨ (x2 : Int) = 1) ∧ Q x2 h)) ∧ (¬ x2 = 0 → (hK h x0 = 11 ∧ ((hK h (hR h x0 28) = 12 ∧ (0 : Int) ≤ x3 ∧ x3 < hL h (hR h x0 28)) ∧ (hK h x0 = 11 ∧ (((-2147483648 : Int) ≤ 8 * x1 ∧ 8 * x1 ≤ (2147483647 : Int)) ∧ (((-2147483648 : Int) ≤ (8 * x1) + x3 ∧ (8 * x1) + x3 ≤ (2147483647 : Int)) ∧ ((hK h (hR h x0 13) = 12 ∧ (0 : Int) ≤ (8 * x1) + x3 ∧ (8 * x1) + x3 < hL h (hR h x0 13)) ∧ ((hI h (hR h x0 28) x3 ≠ hI h (hR h x0 13) ((8 * x1) + x3) → (((-2147483648 : Int) ≤ x3 + 1 ∧ x3 + 1 ≤ (2147483647 : Int)) ∧ (P21 0 (x3 + 1) h))) ∧ (hI h (hR h x0 28) x3 = hI h (hR h x0 13) ((8 * x1) + x3) → (((-2147483648 : Int) ≤ x3 + 1 ∧ x3 + 1 ≤ (2147483647 : Int)) ∧ (P21 1 (x3 + 1) h))))))))))))))
def Lp_X12_isSaid_21 (x0 : Nat) (x1 : Int) (x2 : Int) (x3 : Int) (h : Hp) (Q : Int → Hp → Prop) : Prop := ∀ P21 : Int → Int → Hp → Prop, (∀ (x2 : Int) (x3 : Int) (h : Hp), BLp_X12_isSaid_21 x0 x1 P21 x2 x3 h Q → P21 x2 x3 h) → P21 x2 x3 h
theorem Lp_X12_isSaid_21_ind {x0 : Nat} {x1 : Int} {Q : Int → Hp → Prop} (I : Int → Int → Hp → Prop) (μ : Int → Int → Hp → Nat) (hs : ∀ (P21 : Int → Int → Hp → Prop) (x2 : Int) (x3 : Int) (h : Hp), I x2 x3 h → (∀ (x2' : Int) (x3' : Int) (h' : Hp), I x2' x3' h' → μ x2' x3' h' < μ x2 x3 h → P21 x2' x3' h') → BLp_X12_isSaid_21 x0 x1 P21 x2 x3 h Q) : ∀ (x2 : Int) (x3 : Int) (h : Hp), I x2 x3 h → Lp_X12_isSaid_21 x0 x1 x2 x3 h Q := by
  intro x2 x3 h hI P21 hP
  have key : ∀ (n : Nat) (x2 : Int) (x3 : Int) (h : Hp), I x2 x3 h → μ x2 x3 h < n → P21 x2 x3 h := by
    intro n
    induction n with
    | zero => intro x2 x3 h _ hl; exact absurd hl (Nat.not_lt_zero _)
    | succ n ih => intro x2 x3 h hi hl; exact hP x2 x3 h (hs P21 x2 x3 h hi (fun x2 x3 h' hi' hl' => ih x2 x3 h' hi' (by omega)))
  exact key _ x2 x3 h hI (Nat.lt_succ_self _)
theorem GLp_X12_isSaid_21 (x0 : Nat) (x1 : Int) (x2 : Int) (x3 : Int) (h : Hp) (Q : Int → Hp → Prop) (hV : Lp_X12_isSaid_21 x0 x1 x2 x3 h Q) : Go i_X12_isSaid 21 [(0, .inr (.inr x0)), (1, .inl x1), (2, .inl x2), (3, .inl x3)] [] h (qI Q) := by
  refine hV (fun x2 x3 h => Go i_X12_isSaid 21 [(0, .inr (.inr x0)), (1, .inl x1), (2, .inl x2), (3, .inl x3)] [] h (qI Q)) (fun x2 x3 h hV => ?_)
  unfold BLp_X12_isSaid_21 at hV
  have hP21 : ∀ (x2 : Int) (x3 : Int) (h : Hp), Go i_X12_isSaid 21 [(0, .inr (.inr x0)), (1, .inl x1), (2, .inl x2), (3, .inl x3)] [] h (qI Q) → Go i_X12_isSaid 21 [(0, .inr (.inr x0)), (1, .inl x1), (2, .inl x2), (3, .inl x3)] [] h (qI Q) := fun _ _ h z => z
  refine s_iload_n d_X12_isSaid_21 rfl (ma 3 rfl) ?_
  refine s_aload_n d_X12_isSaid_22 rfl (ma 0 rfl) ?_
  obtain ⟨o, hV⟩ := hV
  refine f_RX12_186g rfl d_X12_isSaid_23 o ?_
  refine s_icmp_ge (tgt := 65) d_X12_isSaid_26 (by decide) (fun c => ?_) (fun c => ?_)
  · have hV := hV.1 c
    refine s_iload_n d_X12_isSaid_65 rfl (ma 2 rfl) ?_
    exact s_iret d_X12_isSaid_66 rfl (nar_z hV.1) ⟨_, rfl, hV.2⟩
  · have hV := hV.2 c
    refine s_iload_n d_X12_isSaid_29 rfl (ma 2 rfl) ?_
    refine s_if_eq (tgt := 65) d_X12_isSaid_30 (by decide) (fun c => ?_) (fun c => ?_)
    · have hV := hV.1 c
      refine s_iload_n d_X12_isSaid_65 rfl (ma 2 rfl) ?_
      exact s_iret d_X12_isSaid_66 rfl (nar_z hV.1) ⟨_, rfl, hV.2⟩
    · have hV := hV.2 c
      refine s_aload_n d_X12_isSaid_33 rfl (ma 0 rfl) ?_
      obtain ⟨o, hV⟩ := hV
      refine f_RX12_63g rfl d_X12_isSaid_34 o ?_
      refine s_iload_n d_X12_isSaid_37 rfl (ma 3 rfl) ?_
      obtain ⟨o, hV⟩ := hV
      refine s_iald d_X12_isSaid_38 o.1 o.2.1 o.2.2 ?_
      refine s_aload_n d_X12_isSaid_39 rfl (ma 0 rfl) ?_
      obtain ⟨o, hV⟩ := hV
      refine f_RX12_29g rfl d_X12_isSaid_40 o ?_
      refine s_bipush d_X12_isSaid_43 (by decide) (okn rfl) ?_
      refine s_iload_n d_X12_isSaid_45 rfl (ma 1 rfl) ?_
      obtain ⟨o, hV⟩ := hV
      refine s_imul d_X12_isSaid_46 o ?_
      refine s_iload_n d_X12_isSaid_47 rfl (ma 3 rfl) ?_
      obtain ⟨o, hV⟩ := hV
      refine s_iadd d_X12_isSaid_48 o ?_
      obtain ⟨o, hV⟩ := hV
      refine s_iald d_X12_isSaid_49 o.1 o.2.1 o.2.2 ?_
      refine s_icmp_ne (tgt := 57) d_X12_isSaid_50 (by decide) (fun c => ?_) (fun c => ?_)
      · have hV := hV.1 c
        refine s_iconst d_X12_isSaid_57 (okn rfl) ?_
        refine s_istore_n (lv' := [(2, .inl 0), (0, .inr (.inr x0)), (1, .inl x1), (3, .inl x3)]) d_X12_isSaid_58 rfl (Nat.le_of_ble_eq_true rfl) rfl ?_
        obtain ⟨o, hV⟩ := hV
        refine s_iinc (lv' := [(3, .inl (x3 + 1)), (2, .inl 0), (0, .inr (.inr x0)), (1, .inl x1)]) d_X12_isSaid_59 (ma 3 rfl) o (Nat.le_of_ble_eq_true rfl) rfl ?_
        refine s_goto (tgt := 21) d_X12_isSaid_62 (by decide) ?_
        refine s_pick (lv' := [(0, .inr (.inr x0)), (1, .inl x1), (2, .inl 0), (3, .inl (x3 + 1))]) [2, 3, 1, 0] rfl ?_
        exact hP21 _ _ _ hV
      · have hV := hV.2 c
        refine s_iconst d_X12_isSaid_53 (okn rfl) ?_
        refine s_goto (tgt := 58) d_X12_isSaid_54 (by decide) ?_
        refine s_istore_n (lv' := [(2, .inl 1), (0, .inr (.inr x0)), (1, .inl x1), (3, .inl x3)]) d_X12_isSaid_58 rfl (Nat.le_of_ble_eq_true rfl) rfl ?_
        obtain ⟨o, hV⟩ := hV
        refine s_iinc (lv' := [(3, .inl (x3 + 1)), (2, .inl 1), (0, .inr (.inr x0)), (1, .inl x1)]) d_X12_isSaid_59 (ma 3 rfl) o (Nat.le_of_ble_eq_true rfl) rfl ?_
        refine s_goto (tgt := 21) d_X12_isSaid_62 (by decide) ?_
        refine s_pick (lv' := [(0, .inr (.inr x0)), (1, .inl x1), (2, .inl 1), (3, .inl (x3 + 1))]) [2, 3, 1, 0] rfl ?_
        exact hP21 _ _ _ hV
def V_X12_isSaid (x0 : Nat) (x1 : Int) (h : Hp) (Q : Int → Hp → Prop) : Prop :=
  hK h x0 = 11 ∧ (hK h x0 = 11 ∧ ((hK h (hR h x0 12) = 12 ∧ (0 : Int) ≤ x1 ∧ x1 < hL h (hR h x0 12)) ∧ ((hI h x0 29 ≠ hI h (hR h x0 12) x1 → (Lp_X12_isSaid_21 x0 x1 0 0 h Q)) ∧ (hI h x0 29 = hI h (hR h x0 12) x1 → (Lp_X12_isSaid_21 x0 x1 1 0 h Q)))))
theorem G_X12_isSaid {x0 : Nat} {x1 : Int} (h : Hp) (Q : Int → Hp → Prop) (hV : V_X12_isSaid x0 x1 h Q) : C_X12_isSaid x0 x1 h Q := by
  unfold V_X12_isSaid at hV
  show Go i_X12_isSaid 0 [(0, .inr (.inr x0)), (1, .inl x1)] [] h (qI Q)
  refine s_aload_n d_X12_isSaid_0 rfl (ma 0 rfl) ?_
  obtain ⟨o, hV⟩ := hV
  refine f_RX12_186g rfl d_X12_isSaid_1 o ?_
  refine s_aload_n d_X12_isSaid_4 rfl (ma 0 rfl) ?_
  obtain ⟨o, hV⟩ := hV
  refine f_RX12_26g rfl d_X12_isSaid_5 o ?_
  refine s_iload_n d_X12_isSaid_8 rfl (ma 1 rfl) ?_
  obtain ⟨o, hV⟩ := hV
  refine s_iald d_X12_isSaid_9 o.1 o.2.1 o.2.2 ?_
  refine s_icmp_ne (tgt := 17) d_X12_isSaid_10 (by decide) (fun c => ?_) (fun c => ?_)
  · have hV := hV.1 c
    refine s_iconst d_X12_isSaid_17 (okn rfl) ?_
    refine s_istore_n (lv' := [(2, .inl 0), (0, .inr (.inr x0)), (1, .inl x1)]) d_X12_isSaid_18 rfl (Nat.le_of_ble_eq_true rfl) rfl ?_
    refine s_iconst d_X12_isSaid_19 (okn rfl) ?_
    refine s_istore_n (lv' := [(3, .inl 0), (2, .inl 0), (0, .inr (.inr x0)), (1, .inl x1)]) d_X12_isSaid_20 rfl (Nat.le_of_ble_eq_true rfl) rfl ?_
    refine s_pick (lv' := [(0, .inr (.inr x0)), (1, .inl x1), (2, .inl 0), (3, .inl 0)]) [2, 3, 1, 0] rfl ?_
    exact GLp_X12_isSaid_21 _ _ _ _ _ _ hV
  · have hV := hV.2 c
    refine s_iconst d_X12_isSaid_13 (okn rfl) ?_
    refine s_goto (tgt := 18) d_X12_isSaid_14 (by decide) ?_
    refine s_istore_n (lv' := [(2, .inl 1), (0, .inr (.inr x0)), (1, .inl x1)]) d_X12_isSaid_18 rfl (Nat.le_of_ble_eq_true rfl) rfl ?_
    refine s_iconst d_X12_isSaid_19 (okn rfl) ?_
    refine s_istore_n (lv' := [(3, .inl 0), (2, .inl 1), (0, .inr (.inr x0)), (1, .inl x1)]) d_X12_isSaid_20 rfl (Nat.le_of_ble_eq_true rfl) rfl ?_
    refine s_pick (lv' := [(0, .inr (.inr x0)), (1, .inl x1), (2, .inl 1), (3, .inl 0)]) [2, 3, 1, 0] rfl ?_
    exact GLp_X12_isSaid_21 _ _ _ _ _ _ hV

theorem d_X12_couldBe_0 : decode i_X12_couldBe.2.1 0 = .ok (.iconst 0, 1) := by decide +kernel
theorem d_X12_couldBe_1 : decode i_X12_couldBe.2.1 1 = .ok (.istore_n 1, 1) := by decide +kernel
theorem d_X12_couldBe_2 : decode i_X12_couldBe.2.1 2 = .ok (.iconst 0, 1) := by decide +kernel
theorem d_X12_couldBe_3 : decode i_X12_couldBe.2.1 3 = .ok (.istore_n 2, 1) := by decide +kernel
theorem d_X12_couldBe_4 : decode i_X12_couldBe.2.1 4 = .ok (.iload_n 2, 1) := by decide +kernel
theorem d_X12_couldBe_5 : decode i_X12_couldBe.2.1 5 = .ok (.bipush 6, 2) := by decide +kernel
theorem d_X12_couldBe_7 : decode i_X12_couldBe.2.1 7 = .ok (.if_icmp .ge 86, 3) := by decide +kernel
theorem d_X12_couldBe_10 : decode i_X12_couldBe.2.1 10 = .ok (.iconst 1, 1) := by decide +kernel
theorem d_X12_couldBe_11 : decode i_X12_couldBe.2.1 11 = .ok (.istore_n 3, 1) := by decide +kernel
theorem d_X12_couldBe_12 : decode i_X12_couldBe.2.1 12 = .ok (.iconst 0, 1) := by decide +kernel
theorem d_X12_couldBe_13 : decode i_X12_couldBe.2.1 13 = .ok (.istore 4, 2) := by decide +kernel
theorem d_X12_couldBe_15 : decode i_X12_couldBe.2.1 15 = .ok (.iload 4, 2) := by decide +kernel
theorem d_X12_couldBe_17 : decode i_X12_couldBe.2.1 17 = .ok (.aload_n 0, 1) := by decide +kernel
theorem d_X12_couldBe_18 : decode i_X12_couldBe.2.1 18 = .ok (.getfield 146, 3) := by decide +kernel
theorem d_X12_couldBe_21 : decode i_X12_couldBe.2.1 21 = .ok (.if_icmp .ge 52, 3) := by decide +kernel
theorem d_X12_couldBe_24 : decode i_X12_couldBe.2.1 24 = .ok (.iload_n 3, 1) := by decide +kernel
theorem d_X12_couldBe_25 : decode i_X12_couldBe.2.1 25 = .ok (.ifCond .eq 48, 3) := by decide +kernel
theorem d_X12_couldBe_28 : decode i_X12_couldBe.2.1 28 = .ok (.aload_n 0, 1) := by decide +kernel
theorem d_X12_couldBe_29 : decode i_X12_couldBe.2.1 29 = .ok (.aload_n 0, 1) := by decide +kernel
theorem d_X12_couldBe_30 : decode i_X12_couldBe.2.1 30 = .ok (.getfield 48, 3) := by decide +kernel
theorem d_X12_couldBe_33 : decode i_X12_couldBe.2.1 33 = .ok (.iload 4, 2) := by decide +kernel
theorem d_X12_couldBe_35 : decode i_X12_couldBe.2.1 35 = .ok (.iaload, 1) := by decide +kernel
theorem d_X12_couldBe_36 : decode i_X12_couldBe.2.1 36 = .ok (.iload_n 2, 1) := by decide +kernel
theorem d_X12_couldBe_37 : decode i_X12_couldBe.2.1 37 = .ok (.invokevirtual 268, 3) := by decide +kernel
theorem d_X12_couldBe_40 : decode i_X12_couldBe.2.1 40 = .ok (.aload_n 0, 1) := by decide +kernel
theorem d_X12_couldBe_41 : decode i_X12_couldBe.2.1 41 = .ok (.aload_n 0, 1) := by decide +kernel
theorem d_X12_couldBe_42 : decode i_X12_couldBe.2.1 42 = .ok (.getfield 51, 3) := by decide +kernel
theorem d_X12_couldBe_45 : decode i_X12_couldBe.2.1 45 = .ok (.iload 4, 2) := by decide +kernel
theorem d_X12_couldBe_47 : decode i_X12_couldBe.2.1 47 = .ok (.iaload, 1) := by decide +kernel
theorem d_X12_couldBe_48 : decode i_X12_couldBe.2.1 48 = .ok (.invokevirtual 270, 3) := by decide +kernel
theorem d_X12_couldBe_51 : decode i_X12_couldBe.2.1 51 = .ok (.aload_n 0, 1) := by decide +kernel
theorem d_X12_couldBe_52 : decode i_X12_couldBe.2.1 52 = .ok (.getfield 54, 3) := by decide +kernel
theorem d_X12_couldBe_55 : decode i_X12_couldBe.2.1 55 = .ok (.iload 4, 2) := by decide +kernel
theorem d_X12_couldBe_57 : decode i_X12_couldBe.2.1 57 = .ok (.baload, 1) := by decide +kernel
theorem d_X12_couldBe_58 : decode i_X12_couldBe.2.1 58 = .ok (.if_icmp .ne 7, 3) := by decide +kernel
theorem d_X12_couldBe_61 : decode i_X12_couldBe.2.1 61 = .ok (.iconst 1, 1) := by decide +kernel
theorem d_X12_couldBe_62 : decode i_X12_couldBe.2.1 62 = .ok (.goto 4, 3) := by decide +kernel
theorem d_X12_couldBe_65 : decode i_X12_couldBe.2.1 65 = .ok (.iconst 0, 1) := by decide +kernel
theorem d_X12_couldBe_66 : decode i_X12_couldBe.2.1 66 = .ok (.istore_n 3, 1) := by decide +kernel
theorem d_X12_couldBe_67 : decode i_X12_couldBe.2.1 67 = .ok (.iinc 4 1, 3) := by decide +kernel
theorem d_X12_couldBe_70 : decode i_X12_couldBe.2.1 70 = .ok (.goto (-55), 3) := by decide +kernel
theorem d_X12_couldBe_73 : decode i_X12_couldBe.2.1 73 = .ok (.iload_n 1, 1) := by decide +kernel
theorem d_X12_couldBe_74 : decode i_X12_couldBe.2.1 74 = .ok (.iload_n 3, 1) := by decide +kernel
theorem d_X12_couldBe_75 : decode i_X12_couldBe.2.1 75 = .ok (.ifCond .eq 9, 3) := by decide +kernel
theorem d_X12_couldBe_78 : decode i_X12_couldBe.2.1 78 = .ok (.iconst 1, 1) := by decide +kernel
theorem d_X12_couldBe_79 : decode i_X12_couldBe.2.1 79 = .ok (.iload_n 2, 1) := by decide +kernel
theorem d_X12_couldBe_80 : decode i_X12_couldBe.2.1 80 = .ok (.ishl, 1) := by decide +kernel
theorem d_X12_couldBe_81 : decode i_X12_couldBe.2.1 81 = .ok (.goto 4, 3) := by decide +kernel
theorem d_X12_couldBe_84 : decode i_X12_couldBe.2.1 84 = .ok (.iconst 0, 1) := by decide +kernel
theorem d_X12_couldBe_85 : decode i_X12_couldBe.2.1 85 = .ok (.ior, 1) := by decide +kernel
theorem d_X12_couldBe_86 : decode i_X12_couldBe.2.1 86 = .ok (.istore_n 1, 1) := by decide +kernel
theorem d_X12_couldBe_87 : decode i_X12_couldBe.2.1 87 = .ok (.iinc 2 1, 3) := by decide +kernel
theorem d_X12_couldBe_90 : decode i_X12_couldBe.2.1 90 = .ok (.goto (-86), 3) := by decide +kernel
theorem d_X12_couldBe_93 : decode i_X12_couldBe.2.1 93 = .ok (.iload_n 1, 1) := by decide +kernel
theorem d_X12_couldBe_94 : decode i_X12_couldBe.2.1 94 = .ok (.ireturn, 1) := by decide +kernel
def J_X12_couldBe_73 (P4 : Int → Int → Hp → Prop) (x0 : Nat) (x1 : Int) (x2 : Int) (x3 : Int) (h : Hp) (Q : Int → Hp → Prop) : Prop :=
  (x3 = 0 → (∀ x1_1 : Int, x1_1 = zOr x1 0 → (((-2147483648 : Int) ≤ x2 + 1 ∧ x2 + 1 ≤ (2147483647 : Int)) ∧ (P4 x1_1 (x2 + 1) h)))) ∧ (¬ x3 = 0 → (∀ x1_2 : Int, x1_2 = zOr x1 (zShl 1 x2) → (((-2147483648 : Int) ≤ x2 + 1 ∧ x2 + 1 ≤ (2147483647 : Int)) ∧ (P4 x1_2 (x2 + 1) h))))
theorem GJ_X12_couldBe_73 {P4 : Int → Int → Hp → Prop} (x0 : Nat) (x1 : Int) (x2 : Int) (x3 : Int) (h : Hp) (Q : Int → Hp → Prop) (hP4 : ∀ (m1 : Int) (m2 : Int) (h : Hp), P4 m1 m2 h → Go i_X12_couldBe 4 [(0, .inr (.inr x0)), (1, .inl m1), (2, .inl m2)] [] h (qI Q)) (hV : J_X12_couldBe_73 P4 x0 x1 x2 x3 h Q) : Go i_X12_couldBe 73 [(0, .inr (.inr x0)), (1, .inl x1), (2, .inl x2), (3, .inl x3)] [] h (qI Q) := by
  unfold J_X12_couldBe_73 at hV
  refine s_iload_n d_X12_couldBe_73 rfl (ma 1 rfl) ?_
  refine s_iload_n d_X12_couldBe_74 rfl (ma 3 rfl) ?_
  refine s_if_eq (tgt := 84) d_X12_couldBe_75 (by decide) (fun c => ?_) (fun c => ?_)
  · have hV := hV.1 c
    refine s_iconst d_X12_couldBe_84 (okn rfl) ?_
    refine s_ior d_X12_couldBe_85 ?_
    refine s_nmI (fun x1_1 ex1_1 => ?_)
    have hV := hV x1_1 ex1_1
    refine s_istore_n (lv' := [(1, .inl x1_1), (0, .inr (.inr x0)), (2, .inl x2), (3, .inl x3)]) d_X12_couldBe_86 rfl (Nat.le_of_ble_eq_true rfl) rfl ?_
    obtain ⟨o, hV⟩ := hV
    refine s_iinc (lv' := [(2, .inl (x2 + 1)), (1, .inl x1_1), (0, .inr (.inr x0)), (3, .inl x3)]) d_X12_couldBe_87 (ma 2 rfl) o (Nat.le_of_ble_eq_true rfl) rfl ?_
    refine s_goto (tgt := 4) d_X12_couldBe_90 (by decide) ?_
    refine s_pick (lv' := [(0, .inr (.inr x0)), (1, .inl x1_1), (2, .inl (x2 + 1))]) [2, 1, 0] rfl ?_
    exact hP4 _ _ _ hV
  · have hV := hV.2 c
    refine s_iconst d_X12_couldBe_78 (okn rfl) ?_
    refine s_iload_n d_X12_couldBe_79 rfl (ma 2 rfl) ?_
    refine s_ishl d_X12_couldBe_80 ?_
    refine s_goto (tgt := 85) d_X12_couldBe_81 (by decide) ?_
    refine s_ior d_X12_couldBe_85 ?_
    refine s_nmI (fun x1_2 ex1_2 => ?_)
    have hV := hV x1_2 ex1_2
    refine s_istore_n (lv' := [(1, .inl x1_2), (0, .inr (.inr x0)), (2, .inl x2), (3, .inl x3)]) d_X12_couldBe_86 rfl (Nat.le_of_ble_eq_true rfl) rfl ?_
    obtain ⟨o, hV⟩ := hV
    refine s_iinc (lv' := [(2, .inl (x2 + 1)), (1, .inl x1_2), (0, .inr (.inr x0)), (3, .inl x3)]) d_X12_couldBe_87 (ma 2 rfl) o (Nat.le_of_ble_eq_true rfl) rfl ?_
    refine s_goto (tgt := 4) d_X12_couldBe_90 (by decide) ?_
    refine s_pick (lv' := [(0, .inr (.inr x0)), (1, .inl x1_2), (2, .inl (x2 + 1))]) [2, 1, 0] rfl ?_
    exact hP4 _ _ _ hV
def BLp_X12_couldBe_15 (P4 : Int → Int → Hp → Prop) (x0 : Nat) (x1 : Int) (x2 : Int) (P15 : Int → Int → Hp → Prop) (x3 : Int) (x4 : Int) (h : Hp) (Q : Int → Hp → Prop) : Prop :=
  hK h x0 = 11 ∧ ((hI h x0 21 ≤ x4 → (J_X12_couldBe_73 P4 x0 x1 x2 x3 h Q)) ∧ (¬ hI h x0 21 ≤ x4 → ((x3 = 0 → (J_X12_couldBe_73 P4 x0 x1 x2 x3 h Q)) ∧ (¬ x3 = 0 → (hK h x0 = 11 ∧ ((hK h (hR h x0 22) = 12 ∧ (0 : Int) ≤ x4 ∧ x4 < hL h (hR h x0 22)) ∧ (hK h x0 = 11 ∧ C_X12_readWord x0 (hI h (hR h x0 22) x4) x2 h (fun h1 => (hK h1 x0 = 11 ∧ ((hK h1 (hR h1 x0 23) = 12 ∧ (0 : Int) ≤ x4 ∧ x4 < hL h1 (hR h1 x0 23)) ∧ (hK h1 x0 = 11 ∧ C_X12_isSaid x0 (hI h1 (hR h1 x0 23) x4) h1 (fun r3 h2 => (hK h2 x0 = 11 ∧ ((hK h2 (hR h2 x0 24) = 15 ∧ (0 : Int) ≤ x4 ∧ x4 < hL h2 (hR h2 x0 24)) ∧ ((r3 ≠ hI h2 (hR h2 x0 24) x4 → (((-2147483648 : Int) ≤ x4 + 1 ∧ x4 + 1 ≤ (2147483647 : Int)) ∧ (P15 0 (x4 + 1) h2))) ∧ (r3 = hI h2 (hR h2 x0 24) x4 → (((-2147483648 : Int) ≤ x4 + 1 ∧ x4 + 1 ≤ (2147483647 : Int)) ∧ (P15 1 (x4 + 1) h2))))))))))))))))))
def Lp_X12_couldBe_15 (P4 : Int → Int → Hp → Prop) (x0 : Nat) (x1 : Int) (x2 : Int) (x3 : Int) (x4 : Int) (h : Hp) (Q : Int → Hp → Prop) : Prop := ∀ P15 : Int → Int → Hp → Prop, (∀ (x3 : Int) (x4 : Int) (h : Hp), BLp_X12_couldBe_15 P4 x0 x1 x2 P15 x3 x4 h Q → P15 x3 x4 h) → P15 x3 x4 h
theorem Lp_X12_couldBe_15_ind {P4 : Int → Int → Hp → Prop} {x0 : Nat} {x1 : Int} {x2 : Int} {Q : Int → Hp → Prop} (I : Int → Int → Hp → Prop) (μ : Int → Int → Hp → Nat) (hs : ∀ (P15 : Int → Int → Hp → Prop) (x3 : Int) (x4 : Int) (h : Hp), I x3 x4 h → (∀ (x3' : Int) (x4' : Int) (h' : Hp), I x3' x4' h' → μ x3' x4' h' < μ x3 x4 h → P15 x3' x4' h') → BLp_X12_couldBe_15 P4 x0 x1 x2 P15 x3 x4 h Q) : ∀ (x3 : Int) (x4 : Int) (h : Hp), I x3 x4 h → Lp_X12_couldBe_15 P4 x0 x1 x2 x3 x4 h Q := by
  intro x3 x4 h hI P15 hP
  have key : ∀ (n : Nat) (x3 : Int) (x4 : Int) (h : Hp), I x3 x4 h → μ x3 x4 h < n → P15 x3 x4 h := by
    intro n
    induction n with
    | zero => intro x3 x4 h _ hl; exact absurd hl (Nat.not_lt_zero _)
    | succ n ih => intro x3 x4 h hi hl; exact hP x3 x4 h (hs P15 x3 x4 h hi (fun x3 x4 h' hi' hl' => ih x3 x4 h' hi' (by omega)))
  exact key _ x3 x4 h hI (Nat.lt_succ_self _)
theorem GLp_X12_couldBe_15 {P4 : Int → Int → Hp → Prop} (x0 : Nat) (x1 : Int) (x2 : Int) (x3 : Int) (x4 : Int) (h : Hp) (Q : Int → Hp → Prop) (hP4 : ∀ (m1 : Int) (m2 : Int) (h : Hp), P4 m1 m2 h → Go i_X12_couldBe 4 [(0, .inr (.inr x0)), (1, .inl m1), (2, .inl m2)] [] h (qI Q)) (hV : Lp_X12_couldBe_15 P4 x0 x1 x2 x3 x4 h Q) : Go i_X12_couldBe 15 [(0, .inr (.inr x0)), (1, .inl x1), (2, .inl x2), (3, .inl x3), (4, .inl x4)] [] h (qI Q) := by
  refine hV (fun x3 x4 h => Go i_X12_couldBe 15 [(0, .inr (.inr x0)), (1, .inl x1), (2, .inl x2), (3, .inl x3), (4, .inl x4)] [] h (qI Q)) (fun x3 x4 h hV => ?_)
  unfold BLp_X12_couldBe_15 at hV
  have hP15 : ∀ (x3 : Int) (x4 : Int) (h : Hp), Go i_X12_couldBe 15 [(0, .inr (.inr x0)), (1, .inl x1), (2, .inl x2), (3, .inl x3), (4, .inl x4)] [] h (qI Q) → Go i_X12_couldBe 15 [(0, .inr (.inr x0)), (1, .inl x1), (2, .inl x2), (3, .inl x3), (4, .inl x4)] [] h (qI Q) := fun _ _ h z => z
  refine s_iload d_X12_couldBe_15 (ma 4 rfl) ?_
  refine s_aload_n d_X12_couldBe_17 rfl (ma 0 rfl) ?_
  obtain ⟨o, hV⟩ := hV
  refine f_RX12_146g rfl d_X12_couldBe_18 o ?_
  refine s_icmp_ge (tgt := 73) d_X12_couldBe_21 (by decide) (fun c => ?_) (fun c => ?_)
  · have hV := hV.1 c
    refine s_pick (lv' := [(0, .inr (.inr x0)), (1, .inl x1), (2, .inl x2), (3, .inl x3)]) [0, 1, 2, 3] rfl ?_
    exact GJ_X12_couldBe_73 _ _ _ _ _ _ (by intros; apply hP4; assumption) hV
  · have hV := hV.2 c
    refine s_iload_n d_X12_couldBe_24 rfl (ma 3 rfl) ?_
    refine s_if_eq (tgt := 73) d_X12_couldBe_25 (by decide) (fun c => ?_) (fun c => ?_)
    · have hV := hV.1 c
      refine s_pick (lv' := [(0, .inr (.inr x0)), (1, .inl x1), (2, .inl x2), (3, .inl x3)]) [0, 1, 2, 3] rfl ?_
      exact GJ_X12_couldBe_73 _ _ _ _ _ _ (by intros; apply hP4; assumption) hV
    · have hV := hV.2 c
      refine s_aload_n d_X12_couldBe_28 rfl (ma 0 rfl) ?_
      refine s_aload_n d_X12_couldBe_29 rfl (ma 0 rfl) ?_
      obtain ⟨o, hV⟩ := hV
      refine f_RX12_48g rfl d_X12_couldBe_30 o ?_
      refine s_iload d_X12_couldBe_33 (ma 4 rfl) ?_
      obtain ⟨o, hV⟩ := hV
      refine s_iald d_X12_couldBe_35 o.1 o.2.1 o.2.2 ?_
      refine s_iload_n d_X12_couldBe_36 rfl (ma 2 rfl) ?_
      obtain ⟨o, hV⟩ := hV
      refine v_RX12_268 rfl (Nat.le_of_ble_eq_true rfl) d_X12_couldBe_37 o (Nat.le_of_ble_eq_true rfl) hV (fun h1 hV => ?_)
      refine s_aload_n d_X12_couldBe_40 rfl (ma 0 rfl) ?_
      refine s_aload_n d_X12_couldBe_41 rfl (ma 0 rfl) ?_
      obtain ⟨o, hV⟩ := hV
      refine f_RX12_51g rfl d_X12_couldBe_42 o ?_
      refine s_iload d_X12_couldBe_45 (ma 4 rfl) ?_
      obtain ⟨o, hV⟩ := hV
      refine s_iald d_X12_couldBe_47 o.1 o.2.1 o.2.2 ?_
      obtain ⟨o, hV⟩ := hV
      refine v_RX12_270 rfl (Nat.le_of_ble_eq_true rfl) d_X12_couldBe_48 o (Nat.le_of_ble_eq_true rfl) hV (fun r3 h2 hV => ?_)
      refine s_aload_n d_X12_couldBe_51 rfl (ma 0 rfl) ?_
      obtain ⟨o, hV⟩ := hV
      refine f_RX12_54g rfl d_X12_couldBe_52 o ?_
      refine s_iload d_X12_couldBe_55 (ma 4 rfl) ?_
      obtain ⟨o, hV⟩ := hV
      refine s_zald d_X12_couldBe_57 o.1 o.2.1 o.2.2 ?_
      refine s_icmp_ne (tgt := 65) d_X12_couldBe_58 (by decide) (fun c => ?_) (fun c => ?_)
      · have hV := hV.1 c
        refine s_iconst d_X12_couldBe_65 (okn rfl) ?_
        refine s_istore_n (lv' := [(3, .inl 0), (0, .inr (.inr x0)), (1, .inl x1), (2, .inl x2), (4, .inl x4)]) d_X12_couldBe_66 rfl (Nat.le_of_ble_eq_true rfl) rfl ?_
        obtain ⟨o, hV⟩ := hV
        refine s_iinc (lv' := [(4, .inl (x4 + 1)), (3, .inl 0), (0, .inr (.inr x0)), (1, .inl x1), (2, .inl x2)]) d_X12_couldBe_67 (ma 4 rfl) o (Nat.le_of_ble_eq_true rfl) rfl ?_
        refine s_goto (tgt := 15) d_X12_couldBe_70 (by decide) ?_
        refine s_pick (lv' := [(0, .inr (.inr x0)), (1, .inl x1), (2, .inl x2), (3, .inl 0), (4, .inl (x4 + 1))]) [2, 3, 4, 1, 0] rfl ?_
        exact hP15 _ _ _ hV
      · have hV := hV.2 c
        refine s_iconst d_X12_couldBe_61 (okn rfl) ?_
        refine s_goto (tgt := 66) d_X12_couldBe_62 (by decide) ?_
        refine s_istore_n (lv' := [(3, .inl 1), (0, .inr (.inr x0)), (1, .inl x1), (2, .inl x2), (4, .inl x4)]) d_X12_couldBe_66 rfl (Nat.le_of_ble_eq_true rfl) rfl ?_
        obtain ⟨o, hV⟩ := hV
        refine s_iinc (lv' := [(4, .inl (x4 + 1)), (3, .inl 1), (0, .inr (.inr x0)), (1, .inl x1), (2, .inl x2)]) d_X12_couldBe_67 (ma 4 rfl) o (Nat.le_of_ble_eq_true rfl) rfl ?_
        refine s_goto (tgt := 15) d_X12_couldBe_70 (by decide) ?_
        refine s_pick (lv' := [(0, .inr (.inr x0)), (1, .inl x1), (2, .inl x2), (3, .inl 1), (4, .inl (x4 + 1))]) [2, 3, 4, 1, 0] rfl ?_
        exact hP15 _ _ _ hV
def BLp_X12_couldBe_4 (x0 : Nat) (P4 : Int → Int → Hp → Prop) (x1 : Int) (x2 : Int) (h : Hp) (Q : Int → Hp → Prop) : Prop :=
  (6 ≤ x2 → (Q x1 h)) ∧ (¬ 6 ≤ x2 → (Lp_X12_couldBe_15 P4 x0 x1 x2 1 0 h Q))
def Lp_X12_couldBe_4 (x0 : Nat) (x1 : Int) (x2 : Int) (h : Hp) (Q : Int → Hp → Prop) : Prop := ∀ P4 : Int → Int → Hp → Prop, (∀ (x1 : Int) (x2 : Int) (h : Hp), BLp_X12_couldBe_4 x0 P4 x1 x2 h Q → P4 x1 x2 h) → P4 x1 x2 h
theorem Lp_X12_couldBe_4_ind {x0 : Nat} {Q : Int → Hp → Prop} (I : Int → Int → Hp → Prop) (μ : Int → Int → Hp → Nat) (hs : ∀ (P4 : Int → Int → Hp → Prop) (x1 : Int) (x2 : Int) (h : Hp), I x1 x2 h → (∀ (x1' : Int) (x2' : Int) (h' : Hp), I x1' x2' h' → μ x1' x2' h' < μ x1 x2 h → P4 x1' x2' h') → BLp_X12_couldBe_4 x0 P4 x1 x2 h Q) : ∀ (x1 : Int) (x2 : Int) (h : Hp), I x1 x2 h → Lp_X12_couldBe_4 x0 x1 x2 h Q := by
  intro x1 x2 h hI P4 hP
  have key : ∀ (n : Nat) (x1 : Int) (x2 : Int) (h : Hp), I x1 x2 h → μ x1 x2 h < n → P4 x1 x2 h := by
    intro n
    induction n with
    | zero => intro x1 x2 h _ hl; exact absurd hl (Nat.not_lt_zero _)
    | succ n ih => intro x1 x2 h hi hl; exact hP x1 x2 h (hs P4 x1 x2 h hi (fun x1 x2 h' hi' hl' => ih x1 x2 h' hi' (by omega)))
  exact key _ x1 x2 h hI (Nat.lt_succ_self _)
theorem GLp_X12_couldBe_4 (x0 : Nat) (x1 : Int) (x2 : Int) (h : Hp) (Q : Int → Hp → Prop) (hV : Lp_X12_couldBe_4 x0 x1 x2 h Q) : Go i_X12_couldBe 4 [(0, .inr (.inr x0)), (1, .inl x1), (2, .inl x2)] [] h (qI Q) := by
  refine hV (fun x1 x2 h => Go i_X12_couldBe 4 [(0, .inr (.inr x0)), (1, .inl x1), (2, .inl x2)] [] h (qI Q)) (fun x1 x2 h hV => ?_)
  unfold BLp_X12_couldBe_4 at hV
  have hP4 : ∀ (x1 : Int) (x2 : Int) (h : Hp), Go i_X12_couldBe 4 [(0, .inr (.inr x0)), (1, .inl x1), (2, .inl x2)] [] h (qI Q) → Go i_X12_couldBe 4 [(0, .inr (.inr x0)), (1, .inl x1), (2, .inl x2)] [] h (qI Q) := fun _ _ h z => z
  refine s_iload_n d_X12_couldBe_4 rfl (ma 2 rfl) ?_
  refine s_bipush d_X12_couldBe_5 (by decide) (okn rfl) ?_
  refine s_icmp_ge (tgt := 93) d_X12_couldBe_7 (by decide) (fun c => ?_) (fun c => ?_)
  · have hV := hV.1 c
    refine s_iload_n d_X12_couldBe_93 rfl (ma 1 rfl) ?_
    exact s_iret d_X12_couldBe_94 rfl rfl ⟨_, rfl, hV⟩
  · have hV := hV.2 c
    refine s_iconst d_X12_couldBe_10 (okn rfl) ?_
    refine s_istore_n (lv' := [(3, .inl 1), (0, .inr (.inr x0)), (1, .inl x1), (2, .inl x2)]) d_X12_couldBe_11 rfl (Nat.le_of_ble_eq_true rfl) rfl ?_
    refine s_iconst d_X12_couldBe_12 (okn rfl) ?_
    refine s_istore (lv' := [(4, .inl 0), (3, .inl 1), (0, .inr (.inr x0)), (1, .inl x1), (2, .inl x2)]) d_X12_couldBe_13 (Nat.le_of_ble_eq_true rfl) rfl ?_
    refine s_pick (lv' := [(0, .inr (.inr x0)), (1, .inl x1), (2, .inl x2), (3, .inl 1), (4, .inl 0)]) [2, 3, 4, 1, 0] rfl ?_
    exact GLp_X12_couldBe_15 _ _ _ _ _ _ _ (by intros; apply hP4; assumption) hV
def V_X12_couldBe (x0 : Nat) (h : Hp) (Q : Int → Hp → Prop) : Prop :=
  Lp_X12_couldBe_4 x0 0 0 h Q
theorem G_X12_couldBe {x0 : Nat} (h : Hp) (Q : Int → Hp → Prop) (hV : V_X12_couldBe x0 h Q) : C_X12_couldBe x0 h Q := by
  unfold V_X12_couldBe at hV
  show Go i_X12_couldBe 0 [(0, .inr (.inr x0))] [] h (qI Q)
  refine s_iconst d_X12_couldBe_0 (okn rfl) ?_
  refine s_istore_n (lv' := [(1, .inl 0), (0, .inr (.inr x0))]) d_X12_couldBe_1 rfl (Nat.le_of_ble_eq_true rfl) rfl ?_
  refine s_iconst d_X12_couldBe_2 (okn rfl) ?_
  refine s_istore_n (lv' := [(2, .inl 0), (1, .inl 0), (0, .inr (.inr x0))]) d_X12_couldBe_3 rfl (Nat.le_of_ble_eq_true rfl) rfl ?_
  refine s_pick (lv' := [(0, .inr (.inr x0)), (1, .inl 0), (2, .inl 0)]) [2, 1, 0] rfl ?_
  exact GLp_X12_couldBe_4 _ _ _ _ _ hV

theorem d_X12_alikeOnes_0 : decode i_X12_alikeOnes.2.1 0 = .ok (.iconst 0, 1) := by decide +kernel
theorem d_X12_alikeOnes_1 : decode i_X12_alikeOnes.2.1 1 = .ok (.istore_n 3, 1) := by decide +kernel
theorem d_X12_alikeOnes_2 : decode i_X12_alikeOnes.2.1 2 = .ok (.iconst 0, 1) := by decide +kernel
theorem d_X12_alikeOnes_3 : decode i_X12_alikeOnes.2.1 3 = .ok (.istore 4, 2) := by decide +kernel
theorem d_X12_alikeOnes_5 : decode i_X12_alikeOnes.2.1 5 = .ok (.iload 4, 2) := by decide +kernel
theorem d_X12_alikeOnes_7 : decode i_X12_alikeOnes.2.1 7 = .ok (.bipush 6, 2) := by decide +kernel
theorem d_X12_alikeOnes_9 : decode i_X12_alikeOnes.2.1 9 = .ok (.if_icmp .ge 114, 3) := by decide +kernel
theorem d_X12_alikeOnes_12 : decode i_X12_alikeOnes.2.1 12 = .ok (.iload_n 1, 1) := by decide +kernel
theorem d_X12_alikeOnes_13 : decode i_X12_alikeOnes.2.1 13 = .ok (.iload 4, 2) := by decide +kernel
theorem d_X12_alikeOnes_15 : decode i_X12_alikeOnes.2.1 15 = .ok (.invokestatic 152, 3) := by decide +kernel
theorem d_X12_alikeOnes_18 : decode i_X12_alikeOnes.2.1 18 = .ok (.ifCond .eq 23, 3) := by decide +kernel
theorem d_X12_alikeOnes_21 : decode i_X12_alikeOnes.2.1 21 = .ok (.aload_n 0, 1) := by decide +kernel
theorem d_X12_alikeOnes_22 : decode i_X12_alikeOnes.2.1 22 = .ok (.getfield 87, 3) := by decide +kernel
theorem d_X12_alikeOnes_25 : decode i_X12_alikeOnes.2.1 25 = .ok (.iload 4, 2) := by decide +kernel
theorem d_X12_alikeOnes_27 : decode i_X12_alikeOnes.2.1 27 = .ok (.iaload, 1) := by decide +kernel
theorem d_X12_alikeOnes_28 : decode i_X12_alikeOnes.2.1 28 = .ok (.aload_n 0, 1) := by decide +kernel
theorem d_X12_alikeOnes_29 : decode i_X12_alikeOnes.2.1 29 = .ok (.getfield 87, 3) := by decide +kernel
theorem d_X12_alikeOnes_32 : decode i_X12_alikeOnes.2.1 32 = .ok (.iload_n 2, 1) := by decide +kernel
theorem d_X12_alikeOnes_33 : decode i_X12_alikeOnes.2.1 33 = .ok (.iaload, 1) := by decide +kernel
theorem d_X12_alikeOnes_34 : decode i_X12_alikeOnes.2.1 34 = .ok (.if_icmp .ne 7, 3) := by decide +kernel
theorem d_X12_alikeOnes_37 : decode i_X12_alikeOnes.2.1 37 = .ok (.iconst 1, 1) := by decide +kernel
theorem d_X12_alikeOnes_38 : decode i_X12_alikeOnes.2.1 38 = .ok (.goto 4, 3) := by decide +kernel
theorem d_X12_alikeOnes_41 : decode i_X12_alikeOnes.2.1 41 = .ok (.iconst 0, 1) := by decide +kernel
theorem d_X12_alikeOnes_42 : decode i_X12_alikeOnes.2.1 42 = .ok (.istore 5, 2) := by decide +kernel
theorem d_X12_alikeOnes_44 : decode i_X12_alikeOnes.2.1 44 = .ok (.iconst 0, 1) := by decide +kernel
theorem d_X12_alikeOnes_45 : decode i_X12_alikeOnes.2.1 45 = .ok (.istore 6, 2) := by decide +kernel
theorem d_X12_alikeOnes_47 : decode i_X12_alikeOnes.2.1 47 = .ok (.iload 6, 2) := by decide +kernel
theorem d_X12_alikeOnes_49 : decode i_X12_alikeOnes.2.1 49 = .ok (.aload_n 0, 1) := by decide +kernel
theorem d_X12_alikeOnes_50 : decode i_X12_alikeOnes.2.1 50 = .ok (.getfield 87, 3) := by decide +kernel
theorem d_X12_alikeOnes_53 : decode i_X12_alikeOnes.2.1 53 = .ok (.iload_n 2, 1) := by decide +kernel
theorem d_X12_alikeOnes_54 : decode i_X12_alikeOnes.2.1 54 = .ok (.iaload, 1) := by decide +kernel
theorem d_X12_alikeOnes_55 : decode i_X12_alikeOnes.2.1 55 = .ok (.if_icmp .ge 49, 3) := by decide +kernel
theorem d_X12_alikeOnes_58 : decode i_X12_alikeOnes.2.1 58 = .ok (.iload 5, 2) := by decide +kernel
theorem d_X12_alikeOnes_60 : decode i_X12_alikeOnes.2.1 60 = .ok (.ifCond .eq 44, 3) := by decide +kernel
theorem d_X12_alikeOnes_63 : decode i_X12_alikeOnes.2.1 63 = .ok (.aload_n 0, 1) := by decide +kernel
theorem d_X12_alikeOnes_64 : decode i_X12_alikeOnes.2.1 64 = .ok (.getfield 84, 3) := by decide +kernel
theorem d_X12_alikeOnes_67 : decode i_X12_alikeOnes.2.1 67 = .ok (.bipush 20, 2) := by decide +kernel
theorem d_X12_alikeOnes_69 : decode i_X12_alikeOnes.2.1 69 = .ok (.iload 4, 2) := by decide +kernel
theorem d_X12_alikeOnes_71 : decode i_X12_alikeOnes.2.1 71 = .ok (.imul, 1) := by decide +kernel
theorem d_X12_alikeOnes_72 : decode i_X12_alikeOnes.2.1 72 = .ok (.iload 6, 2) := by decide +kernel
theorem d_X12_alikeOnes_74 : decode i_X12_alikeOnes.2.1 74 = .ok (.iadd, 1) := by decide +kernel
theorem d_X12_alikeOnes_75 : decode i_X12_alikeOnes.2.1 75 = .ok (.iaload, 1) := by decide +kernel
theorem d_X12_alikeOnes_76 : decode i_X12_alikeOnes.2.1 76 = .ok (.aload_n 0, 1) := by decide +kernel
theorem d_X12_alikeOnes_77 : decode i_X12_alikeOnes.2.1 77 = .ok (.getfield 84, 3) := by decide +kernel
theorem d_X12_alikeOnes_80 : decode i_X12_alikeOnes.2.1 80 = .ok (.bipush 20, 2) := by decide +kernel
theorem d_X12_alikeOnes_82 : decode i_X12_alikeOnes.2.1 82 = .ok (.iload_n 2, 1) := by decide +kernel
theorem d_X12_alikeOnes_83 : decode i_X12_alikeOnes.2.1 83 = .ok (.imul, 1) := by decide +kernel
theorem d_X12_alikeOnes_84 : decode i_X12_alikeOnes.2.1 84 = .ok (.iload 6, 2) := by decide +kernel
theorem d_X12_alikeOnes_86 : decode i_X12_alikeOnes.2.1 86 = .ok (.iadd, 1) := by decide +kernel
theorem d_X12_alikeOnes_87 : decode i_X12_alikeOnes.2.1 87 = .ok (.iaload, 1) := by decide +kernel
theorem d_X12_alikeOnes_88 : decode i_X12_alikeOnes.2.1 88 = .ok (.if_icmp .ne 7, 3) := by decide +kernel
theorem d_X12_alikeOnes_91 : decode i_X12_alikeOnes.2.1 91 = .ok (.iconst 1, 1) := by decide +kernel
theorem d_X12_alikeOnes_92 : decode i_X12_alikeOnes.2.1 92 = .ok (.goto 4, 3) := by decide +kernel
theorem d_X12_alikeOnes_95 : decode i_X12_alikeOnes.2.1 95 = .ok (.iconst 0, 1) := by decide +kernel
theorem d_X12_alikeOnes_96 : decode i_X12_alikeOnes.2.1 96 = .ok (.istore 5, 2) := by decide +kernel
theorem d_X12_alikeOnes_98 : decode i_X12_alikeOnes.2.1 98 = .ok (.iinc 6 1, 3) := by decide +kernel
theorem d_X12_alikeOnes_101 : decode i_X12_alikeOnes.2.1 101 = .ok (.goto (-54), 3) := by decide +kernel
theorem d_X12_alikeOnes_104 : decode i_X12_alikeOnes.2.1 104 = .ok (.iload_n 3, 1) := by decide +kernel
theorem d_X12_alikeOnes_105 : decode i_X12_alikeOnes.2.1 105 = .ok (.iload 5, 2) := by decide +kernel
theorem d_X12_alikeOnes_107 : decode i_X12_alikeOnes.2.1 107 = .ok (.ifCond .eq 7, 3) := by decide +kernel
theorem d_X12_alikeOnes_110 : decode i_X12_alikeOnes.2.1 110 = .ok (.iconst 1, 1) := by decide +kernel
theorem d_X12_alikeOnes_111 : decode i_X12_alikeOnes.2.1 111 = .ok (.goto 4, 3) := by decide +kernel
theorem d_X12_alikeOnes_114 : decode i_X12_alikeOnes.2.1 114 = .ok (.iconst 0, 1) := by decide +kernel
theorem d_X12_alikeOnes_115 : decode i_X12_alikeOnes.2.1 115 = .ok (.iadd, 1) := by decide +kernel
theorem d_X12_alikeOnes_116 : decode i_X12_alikeOnes.2.1 116 = .ok (.istore_n 3, 1) := by decide +kernel
theorem d_X12_alikeOnes_117 : decode i_X12_alikeOnes.2.1 117 = .ok (.iinc 4 1, 3) := by decide +kernel
theorem d_X12_alikeOnes_120 : decode i_X12_alikeOnes.2.1 120 = .ok (.goto (-115), 3) := by decide +kernel
theorem d_X12_alikeOnes_123 : decode i_X12_alikeOnes.2.1 123 = .ok (.iload_n 3, 1) := by decide +kernel
theorem d_X12_alikeOnes_124 : decode i_X12_alikeOnes.2.1 124 = .ok (.ireturn, 1) := by decide +kernel
def J_X12_alikeOnes_104 (P5 : Int → Int → Hp → Prop) (x0 : Nat) (x1 : Int) (x2 : Int) (x3 : Int) (x4 : Int) (x5 : Int) (h : Hp) (Q : Int → Hp → Prop) : Prop :=
  (x5 = 0 → (((-2147483648 : Int) ≤ x3 + 0 ∧ x3 + 0 ≤ (2147483647 : Int)) ∧ (∀ x3_1 : Int, x3_1 = x3 + 0 → (((-2147483648 : Int) ≤ x4 + 1 ∧ x4 + 1 ≤ (2147483647 : Int)) ∧ (P5 x3_1 (x4 + 1) h))))) ∧ (¬ x5 = 0 → (((-2147483648 : Int) ≤ x3 + 1 ∧ x3 + 1 ≤ (2147483647 : Int)) ∧ (∀ x3_2 : Int, x3_2 = x3 + 1 → (((-2147483648 : Int) ≤ x4 + 1 ∧ x4 + 1 ≤ (2147483647 : Int)) ∧ (P5 x3_2 (x4 + 1) h)))))
theorem GJ_X12_alikeOnes_104 {P5 : Int → Int → Hp → Prop} (x0 : Nat) (x1 : Int) (x2 : Int) (x3 : Int) (x4 : Int) (x5 : Int) (h : Hp) (Q : Int → Hp → Prop) (hP5 : ∀ (m3 : Int) (m4 : Int) (h : Hp), P5 m3 m4 h → Go i_X12_alikeOnes 5 [(0, .inr (.inr x0)), (1, .inl x1), (2, .inl x2), (3, .inl m3), (4, .inl m4)] [] h (qI Q)) (hV : J_X12_alikeOnes_104 P5 x0 x1 x2 x3 x4 x5 h Q) : Go i_X12_alikeOnes 104 [(0, .inr (.inr x0)), (1, .inl x1), (2, .inl x2), (3, .inl x3), (4, .inl x4), (5, .inl x5)] [] h (qI Q) := by
  unfold J_X12_alikeOnes_104 at hV
  refine s_iload_n d_X12_alikeOnes_104 rfl (ma 3 rfl) ?_
  refine s_iload d_X12_alikeOnes_105 (ma 5 rfl) ?_
  refine s_if_eq (tgt := 114) d_X12_alikeOnes_107 (by decide) (fun c => ?_) (fun c => ?_)
  · have hV := hV.1 c
    refine s_iconst d_X12_alikeOnes_114 (okn rfl) ?_
    obtain ⟨o, hV⟩ := hV
    refine s_iadd d_X12_alikeOnes_115 o ?_
    refine s_nmI (fun x3_1 ex3_1 => ?_)
    have hV := hV x3_1 ex3_1
    refine s_istore_n (lv' := [(3, .inl x3_1), (0, .inr (.inr x0)), (1, .inl x1), (2, .inl x2), (4, .inl x4), (5, .inl x5)]) d_X12_alikeOnes_116 rfl (Nat.le_of_ble_eq_true rfl) rfl ?_
    obtain ⟨o, hV⟩ := hV
    refine s_iinc (lv' := [(4, .inl (x4 + 1)), (3, .inl x3_1), (0, .inr (.inr x0)), (1, .inl x1), (2, .inl x2), (5, .inl x5)]) d_X12_alikeOnes_117 (ma 4 rfl) o (Nat.le_of_ble_eq_true rfl) rfl ?_
    refine s_goto (tgt := 5) d_X12_alikeOnes_120 (by decide) ?_
    refine s_pick (lv' := [(0, .inr (.inr x0)), (1, .inl x1), (2, .inl x2), (3, .inl x3_1), (4, .inl (x4 + 1))]) [2, 3, 4, 1, 0] rfl ?_
    exact hP5 _ _ _ hV
  · have hV := hV.2 c
    refine s_iconst d_X12_alikeOnes_110 (okn rfl) ?_
    refine s_goto (tgt := 115) d_X12_alikeOnes_111 (by decide) ?_
    obtain ⟨o, hV⟩ := hV
    refine s_iadd d_X12_alikeOnes_115 o ?_
    refine s_nmI (fun x3_2 ex3_2 => ?_)
    have hV := hV x3_2 ex3_2
    refine s_istore_n (lv' := [(3, .inl x3_2), (0, .inr (.inr x0)), (1, .inl x1), (2, .inl x2), (4, .inl x4), (5, .inl x5)]) d_X12_alikeOnes_116 rfl (Nat.le_of_ble_eq_true rfl) rfl ?_
    obtain ⟨o, hV⟩ := hV
    refine s_iinc (lv' := [(4, .inl (x4 + 1)), (3, .inl x3_2), (0, .inr (.inr x0)), (1, .inl x1), (2, .inl x2), (5, .inl x5)]) d_X12_alikeOnes_117 (ma 4 rfl) o (Nat.le_of_ble_eq_true rfl) rfl ?_
    refine s_goto (tgt := 5) d_X12_alikeOnes_120 (by decide) ?_
    refine s_pick (lv' := [(0, .inr (.inr x0)), (1, .inl x1), (2, .inl x2), (3, .inl x3_2), (4, .inl (x4 + 1))]) [2, 3, 4, 1, 0] rfl ?_
    exact hP5 _ _ _ hV
def BLp_X12_alikeOnes_47 (P5 : Int → Int → Hp → Prop) (x0 : Nat) (x1 : Int) (x2 : Int) (x3 : Int) (x4 : Int) (P47 : Int → Int → Hp → Prop) (x5 : Int) (x6 : Int) (h : Hp) (Q : Int → Hp → Prop) : Prop :=
  hK h x0 = 11 ∧ ((hK h (hR h x0 39) = 12 ∧ (0 : Int) ≤ x2 ∧ x2 < hL h (hR h x0 39)) ∧ ((hI h (hR h x0 39) x2 ≤ x6 → (J_X12_alikeOnes_104 P5 x0 x1 x2 x3 x4 x5 h Q)) ∧ (¬ hI h (hR h x0 39) x2 ≤ x6 → ((x5 = 0 → (J_X12_alikeOnes_104 P5 x0 x1 x2 x3 x4 x5 h Q)) ∧ (¬ x5 = 0 → (hK h x0 = 11 ∧ (((-2147483648 : Int) ≤ 20 * x4 ∧ 20 * x4 ≤ (2147483647 : Int)) ∧ (((-2147483648 : Int) ≤ (20 * x4) + x6 ∧ (20 * x4) + x6 ≤ (2147483647 : Int)) ∧ ((hK h (hR h x0 38) = 12 ∧ (0 : Int) ≤ (20 * x4) + x6 ∧ (20 * x4) + x6 < hL h (hR h x0 38)) ∧ (hK h x0 = 11 ∧ (((-2147483648 : Int) ≤ 20 * x2 ∧ 20 * x2 ≤ (2147483647 : Int)) ∧ (((-2147483648 : Int) ≤ (20 * x2) + x6 ∧ (20 * x2) + x6 ≤ (2147483647 : Int)) ∧ ((hK h (hR h x0 38) = 12 ∧ (0 : Int) ≤ (20 * x2) + x6 ∧ (20 * x2) + x6 < hL h (hR h x0 38)) ∧ ((hI h (hR h x0 38) ((20 * x4) + x6) ≠ hI h (hR h x0 38) ((20 * x2) + x6) → (((-2147483648 : Int) ≤ x6 + 1 ∧ x6 + 1 ≤ (2147483647 : Int)) ∧ (P47 0 (x6 + 1) h))) ∧ (hI h (hR h x0 38) ((20 * x4) + x6) = hI h (hR h x0 38) ((20 * x2) + x6) → (((-2147483648 : Int) ≤ x6 + 1 ∧ x6 + 1 ≤ (2147483647 : Int)) ∧ (P47 1 (x6 + 1) h)))))))))))))))))
def Lp_X12_alikeOnes_47 (P5 : Int → Int → Hp → Prop) (x0 : Nat) (x1 : Int) (x2 : Int) (x3 : Int) (x4 : Int) (x5 : Int) (x6 : Int) (h : Hp) (Q : Int → Hp → Prop) : Prop := ∀ P47 : Int → Int → Hp → Prop, (∀ (x5 : Int) (x6 : Int) (h : Hp), BLp_X12_alikeOnes_47 P5 x0 x1 x2 x3 x4 P47 x5 x6 h Q → P47 x5 x6 h) → P47 x5 x6 h
theorem Lp_X12_alikeOnes_47_ind {P5 : Int → Int → Hp → Prop} {x0 : Nat} {x1 : Int} {x2 : Int} {x3 : Int} {x4 : Int} {Q : Int → Hp → Prop} (I : Int → Int → Hp → Prop) (μ : Int → Int → Hp → Nat) (hs : ∀ (P47 : Int → Int → Hp → Prop) (x5 : Int) (x6 : Int) (h : Hp), I x5 x6 h → (∀ (x5' : Int) (x6' : Int) (h' : Hp), I x5' x6' h' → μ x5' x6' h' < μ x5 x6 h → P47 x5' x6' h') → BLp_X12_alikeOnes_47 P5 x0 x1 x2 x3 x4 P47 x5 x6 h Q) : ∀ (x5 : Int) (x6 : Int) (h : Hp), I x5 x6 h → Lp_X12_alikeOnes_47 P5 x0 x1 x2 x3 x4 x5 x6 h Q := by
  intro x5 x6 h hI P47 hP
  have key : ∀ (n : Nat) (x5 : Int) (x6 : Int) (h : Hp), I x5 x6 h → μ x5 x6 h < n → P47 x5 x6 h := by
    intro n
    induction n with
    | zero => intro x5 x6 h _ hl; exact absurd hl (Nat.not_lt_zero _)
    | succ n ih => intro x5 x6 h hi hl; exact hP x5 x6 h (hs P47 x5 x6 h hi (fun x5 x6 h' hi' hl' => ih x5 x6 h' hi' (by omega)))
  exact key _ x5 x6 h hI (Nat.lt_succ_self _)
theorem GLp_X12_alikeOnes_47 {P5 : Int → Int → Hp → Prop} (x0 : Nat) (x1 : Int) (x2 : Int) (x3 : Int) (x4 : Int) (x5 : Int) (x6 : Int) (h : Hp) (Q : Int → Hp → Prop) (hP5 : ∀ (m3 : Int) (m4 : Int) (h : Hp), P5 m3 m4 h → Go i_X12_alikeOnes 5 [(0, .inr (.inr x0)), (1, .inl x1), (2, .inl x2), (3, .inl m3), (4, .inl m4)] [] h (qI Q)) (hV : Lp_X12_alikeOnes_47 P5 x0 x1 x2 x3 x4 x5 x6 h Q) : Go i_X12_alikeOnes 47 [(0, .inr (.inr x0)), (1, .inl x1), (2, .inl x2), (3, .inl x3), (4, .inl x4), (5, .inl x5), (6, .inl x6)] [] h (qI Q) := by
  refine hV (fun x5 x6 h => Go i_X12_alikeOnes 47 [(0, .inr (.inr x0)), (1, .inl x1), (2, .inl x2), (3, .inl x3), (4, .inl x4), (5, .inl x5), (6, .inl x6)] [] h (qI Q)) (fun x5 x6 h hV => ?_)
  unfold BLp_X12_alikeOnes_47 at hV
  have hP47 : ∀ (x5 : Int) (x6 : Int) (h : Hp), Go i_X12_alikeOnes 47 [(0, .inr (.inr x0)), (1, .inl x1), (2, .inl x2), (3, .inl x3), (4, .inl x4), (5, .inl x5), (6, .inl x6)] [] h (qI Q) → Go i_X12_alikeOnes 47 [(0, .inr (.inr x0)), (1, .inl x1), (2, .inl x2), (3, .inl x3), (4, .inl x4), (5, .inl x5), (6, .inl x6)] [] h (qI Q) := fun _ _ h z => z
  refine s_iload d_X12_alikeOnes_47 (ma 6 rfl) ?_
  refine s_aload_n d_X12_alikeOnes_49 rfl (ma 0 rfl) ?_
  obtain ⟨o, hV⟩ := hV
  refine f_RX12_87g rfl d_X12_alikeOnes_50 o ?_
  refine s_iload_n d_X12_alikeOnes_53 rfl (ma 2 rfl) ?_
  obtain ⟨o, hV⟩ := hV
  refine s_iald d_X12_alikeOnes_54 o.1 o.2.1 o.2.2 ?_
  refine s_icmp_ge (tgt := 104) d_X12_alikeOnes_55 (by decide) (fun c => ?_) (fun c => ?_)
  · have hV := hV.1 c
    refine s_pick (lv' := [(0, .inr (.inr x0)), (1, .inl x1), (2, .inl x2), (3, .inl x3), (4, .inl x4), (5, .inl x5)]) [0, 1, 2, 3, 4, 5] rfl ?_
    exact GJ_X12_alikeOnes_104 _ _ _ _ _ _ _ _ (by intros; apply hP5; assumption) hV
  · have hV := hV.2 c
    refine s_iload d_X12_alikeOnes_58 (ma 5 rfl) ?_
    refine s_if_eq (tgt := 104) d_X12_alikeOnes_60 (by decide) (fun c => ?_) (fun c => ?_)
    · have hV := hV.1 c
      refine s_pick (lv' := [(0, .inr (.inr x0)), (1, .inl x1), (2, .inl x2), (3, .inl x3), (4, .inl x4), (5, .inl x5)]) [0, 1, 2, 3, 4, 5] rfl ?_
      exact GJ_X12_alikeOnes_104 _ _ _ _ _ _ _ _ (by intros; apply hP5; assumption) hV
    · have hV := hV.2 c
      refine s_aload_n d_X12_alikeOnes_63 rfl (ma 0 rfl) ?_
      obtain ⟨o, hV⟩ := hV
      refine f_RX12_84g rfl d_X12_alikeOnes_64 o ?_
      refine s_bipush d_X12_alikeOnes_67 (by decide) (okn rfl) ?_
      refine s_iload d_X12_alikeOnes_69 (ma 4 rfl) ?_
      obtain ⟨o, hV⟩ := hV
      refine s_imul d_X12_alikeOnes_71 o ?_
      refine s_iload d_X12_alikeOnes_72 (ma 6 rfl) ?_
      obtain ⟨o, hV⟩ := hV
      refine s_iadd d_X12_alikeOnes_74 o ?_
      obtain ⟨o, hV⟩ := hV
      refine s_iald d_X12_alikeOnes_75 o.1 o.2.1 o.2.2 ?_
      refine s_aload_n d_X12_alikeOnes_76 rfl (ma 0 rfl) ?_
      obtain ⟨o, hV⟩ := hV
      refine f_RX12_84g rfl d_X12_alikeOnes_77 o ?_
      refine s_bipush d_X12_alikeOnes_80 (by decide) (okn rfl) ?_
      refine s_iload_n d_X12_alikeOnes_82 rfl (ma 2 rfl) ?_
      obtain ⟨o, hV⟩ := hV
      refine s_imul d_X12_alikeOnes_83 o ?_
      refine s_iload d_X12_alikeOnes_84 (ma 6 rfl) ?_
      obtain ⟨o, hV⟩ := hV
      refine s_iadd d_X12_alikeOnes_86 o ?_
      obtain ⟨o, hV⟩ := hV
      refine s_iald d_X12_alikeOnes_87 o.1 o.2.1 o.2.2 ?_
      refine s_icmp_ne (tgt := 95) d_X12_alikeOnes_88 (by decide) (fun c => ?_) (fun c => ?_)
      · have hV := hV.1 c
        refine s_iconst d_X12_alikeOnes_95 (okn rfl) ?_
        refine s_istore (lv' := [(5, .inl 0), (0, .inr (.inr x0)), (1, .inl x1), (2, .inl x2), (3, .inl x3), (4, .inl x4), (6, .inl x6)]) d_X12_alikeOnes_96 (Nat.le_of_ble_eq_true rfl) rfl ?_
        obtain ⟨o, hV⟩ := hV
        refine s_iinc (lv' := [(6, .inl (x6 + 1)), (5, .inl 0), (0, .inr (.inr x0)), (1, .inl x1), (2, .inl x2), (3, .inl x3), (4, .inl x4)]) d_X12_alikeOnes_98 (ma 6 rfl) o (Nat.le_of_ble_eq_true rfl) rfl ?_
        refine s_goto (tgt := 47) d_X12_alikeOnes_101 (by decide) ?_
        refine s_pick (lv' := [(0, .inr (.inr x0)), (1, .inl x1), (2, .inl x2), (3, .inl x3), (4, .inl x4), (5, .inl 0), (6, .inl (x6 + 1))]) [2, 3, 4, 5, 6, 1, 0] rfl ?_
        exact hP47 _ _ _ hV
      · have hV := hV.2 c
        refine s_iconst d_X12_alikeOnes_91 (okn rfl) ?_
        refine s_goto (tgt := 96) d_X12_alikeOnes_92 (by decide) ?_
        refine s_istore (lv' := [(5, .inl 1), (0, .inr (.inr x0)), (1, .inl x1), (2, .inl x2), (3, .inl x3), (4, .inl x4), (6, .inl x6)]) d_X12_alikeOnes_96 (Nat.le_of_ble_eq_true rfl) rfl ?_
        obtain ⟨o, hV⟩ := hV
        refine s_iinc (lv' := [(6, .inl (x6 + 1)), (5, .inl 1), (0, .inr (.inr x0)), (1, .inl x1), (2, .inl x2), (3, .inl x3), (4, .inl x4)]) d_X12_alikeOnes_98 (ma 6 rfl) o (Nat.le_of_ble_eq_true rfl) rfl ?_
        refine s_goto (tgt := 47) d_X12_alikeOnes_101 (by decide) ?_
        refine s_pick (lv' := [(0, .inr (.inr x0)), (1, .inl x1), (2, .inl x2), (3, .inl x3), (4, .inl x4), (5, .inl 1), (6, .inl (x6 + 1))]) [2, 3, 4, 5, 6, 1, 0] rfl ?_
        exact hP47 _ _ _ hV
def BLp_X12_alikeOnes_5 (x0 : Nat) (x1 : Int) (x2 : Int) (P5 : Int → Int → Hp → Prop) (x3 : Int) (x4 : Int) (h : Hp) (Q : Int → Hp → Prop) : Prop :=
  (6 ≤ x4 → (Q x3 h)) ∧ (¬ 6 ≤ x4 → (C_X12_has x1 x4 h (fun r2 h1 => ((r2 = 0 → (Lp_X12_alikeOnes_47 P5 x0 x1 x2 x3 x4 0 0 h1 Q)) ∧ (¬ r2 = 0 → (hK h1 x0 = 11 ∧ ((hK h1 (hR h1 x0 39) = 12 ∧ (0 : Int) ≤ x4 ∧ x4 < hL h1 (hR h1 x0 39)) ∧ (hK h1 x0 = 11 ∧ ((hK h1 (hR h1 x0 39) = 12 ∧ (0 : Int) ≤ x2 ∧ x2 < hL h1 (hR h1 x0 39)) ∧ ((hI h1 (hR h1 x0 39) x4 ≠ hI h1 (hR h1 x0 39) x2 → (Lp_X12_alikeOnes_47 P5 x0 x1 x2 x3 x4 0 0 h1 Q)) ∧ (hI h1 (hR h1 x0 39) x4 = hI h1 (hR h1 x0 39) x2 → (Lp_X12_alikeOnes_47 P5 x0 x1 x2 x3 x4 1 0 h1 Q))))))))))))
def Lp_X12_alikeOnes_5 (x0 : Nat) (x1 : Int) (x2 : Int) (x3 : Int) (x4 : Int) (h : Hp) (Q : Int → Hp → Prop) : Prop := ∀ P5 : Int → Int → Hp → Prop, (∀ (x3 : Int) (x4 : Int) (h : Hp), BLp_X12_alikeOnes_5 x0 x1 x2 P5 x3 x4 h Q → P5 x3 x4 h) → P5 x3 x4 h
theorem Lp_X12_alikeOnes_5_ind {x0 : Nat} {x1 : Int} {x2 : Int} {Q : Int → Hp → Prop} (I : Int → Int → Hp → Prop) (μ : Int → Int → Hp → Nat) (hs : ∀ (P5 : Int → Int → Hp → Prop) (x3 : Int) (x4 : Int) (h : Hp), I x3 x4 h → (∀ (x3' : Int) (x4' : Int) (h' : Hp), I x3' x4' h' → μ x3' x4' h' < μ x3 x4 h → P5 x3' x4' h') → BLp_X12_alikeOnes_5 x0 x1 x2 P5 x3 x4 h Q) : ∀ (x3 : Int) (x4 : Int) (h : Hp), I x3 x4 h → Lp_X12_alikeOnes_5 x0 x1 x2 x3 x4 h Q := by
  intro x3 x4 h hI P5 hP
  have key : ∀ (n : Nat) (x3 : Int) (x4 : Int) (h : Hp), I x3 x4 h → μ x3 x4 h < n → P5 x3 x4 h := by
    intro n
    induction n with
    | zero => intro x3 x4 h _ hl; exact absurd hl (Nat.not_lt_zero _)
    | succ n ih => intro x3 x4 h hi hl; exact hP x3 x4 h (hs P5 x3 x4 h hi (fun x3 x4 h' hi' hl' => ih x3 x4 h' hi' (by omega)))
  exact key _ x3 x4 h hI (Nat.lt_succ_self _)
theorem GLp_X12_alikeOnes_5 (x0 : Nat) (x1 : Int) (x2 : Int) (x3 : Int) (x4 : Int) (h : Hp) (Q : Int → Hp → Prop) (hV : Lp_X12_alikeOnes_5 x0 x1 x2 x3 x4 h Q) : Go i_X12_alikeOnes 5 [(0, .inr (.inr x0)), (1, .inl x1), (2, .inl x2), (3, .inl x3), (4, .inl x4)] [] h (qI Q) := by
  refine hV (fun x3 x4 h => Go i_X12_alikeOnes 5 [(0, .inr (.inr x0)), (1, .inl x1), (2, .inl x2), (3, .inl x3), (4, .inl x4)] [] h (qI Q)) (fun x3 x4 h hV => ?_)
  unfold BLp_X12_alikeOnes_5 at hV
  have hP5 : ∀ (x3 : Int) (x4 : Int) (h : Hp), Go i_X12_alikeOnes 5 [(0, .inr (.inr x0)), (1, .inl x1), (2, .inl x2), (3, .inl x3), (4, .inl x4)] [] h (qI Q) → Go i_X12_alikeOnes 5 [(0, .inr (.inr x0)), (1, .inl x1), (2, .inl x2), (3, .inl x3), (4, .inl x4)] [] h (qI Q) := fun _ _ h z => z
  refine s_iload d_X12_alikeOnes_5 (ma 4 rfl) ?_
  refine s_bipush d_X12_alikeOnes_7 (by decide) (okn rfl) ?_
  refine s_icmp_ge (tgt := 123) d_X12_alikeOnes_9 (by decide) (fun c => ?_) (fun c => ?_)
  · have hV := hV.1 c
    refine s_iload_n d_X12_alikeOnes_123 rfl (ma 3 rfl) ?_
    exact s_iret d_X12_alikeOnes_124 rfl rfl ⟨_, rfl, hV⟩
  · have hV := hV.2 c
    refine s_iload_n d_X12_alikeOnes_12 rfl (ma 1 rfl) ?_
    refine s_iload d_X12_alikeOnes_13 (ma 4 rfl) ?_
    refine v_RX12_152 rfl (Nat.le_of_ble_eq_true rfl) d_X12_alikeOnes_15 (Nat.le_of_ble_eq_true rfl) hV (fun r2 h1 hV => ?_)
    refine s_if_eq (tgt := 41) d_X12_alikeOnes_18 (by decide) (fun c => ?_) (fun c => ?_)
    · have hV := hV.1 c
      refine s_iconst d_X12_alikeOnes_41 (okn rfl) ?_
      refine s_istore (lv' := [(5, .inl 0), (0, .inr (.inr x0)), (1, .inl x1), (2, .inl x2), (3, .inl x3), (4, .inl x4)]) d_X12_alikeOnes_42 (Nat.le_of_ble_eq_true rfl) rfl ?_
      refine s_iconst d_X12_alikeOnes_44 (okn rfl) ?_
      refine s_istore (lv' := [(6, .inl 0), (5, .inl 0), (0, .inr (.inr x0)), (1, .inl x1), (2, .inl x2), (3, .inl x3), (4, .inl x4)]) d_X12_alikeOnes_45 (Nat.le_of_ble_eq_true rfl) rfl ?_
      refine s_pick (lv' := [(0, .inr (.inr x0)), (1, .inl x1), (2, .inl x2), (3, .inl x3), (4, .inl x4), (5, .inl 0), (6, .inl 0)]) [2, 3, 4, 5, 6, 1, 0] rfl ?_
      exact GLp_X12_alikeOnes_47 _ _ _ _ _ _ _ _ _ (by intros; apply hP5; assumption) hV
    · have hV := hV.2 c
      refine s_aload_n d_X12_alikeOnes_21 rfl (ma 0 rfl) ?_
      obtain ⟨o, hV⟩ := hV
      refine f_RX12_87g rfl d_X12_alikeOnes_22 o ?_
      refine s_iload d_X12_alikeOnes_25 (ma 4 rfl) ?_
      obtain ⟨o, hV⟩ := hV
      refine s_iald d_X12_alikeOnes_27 o.1 o.2.1 o.2.2 ?_
      refine s_aload_n d_X12_alikeOnes_28 rfl (ma 0 rfl) ?_
      obtain ⟨o, hV⟩ := hV
      refine f_RX12_87g rfl d_X12_alikeOnes_29 o ?_
      refine s_iload_n d_X12_alikeOnes_32 rfl (ma 2 rfl) ?_
      obtain ⟨o, hV⟩ := hV
      refine s_iald d_X12_alikeOnes_33 o.1 o.2.1 o.2.2 ?_
      refine s_icmp_ne (tgt := 41) d_X12_alikeOnes_34 (by decide) (fun c => ?_) (fun c => ?_)
      · have hV := hV.1 c
        refine s_iconst d_X12_alikeOnes_41 (okn rfl) ?_
        refine s_istore (lv' := [(5, .inl 0), (0, .inr (.inr x0)), (1, .inl x1), (2, .inl x2), (3, .inl x3), (4, .inl x4)]) d_X12_alikeOnes_42 (Nat.le_of_ble_eq_true rfl) rfl ?_
        refine s_iconst d_X12_alikeOnes_44 (okn rfl) ?_
        refine s_istore (lv' := [(6, .inl 0), (5, .inl 0), (0, .inr (.inr x0)), (1, .inl x1), (2, .inl x2), (3, .inl x3), (4, .inl x4)]) d_X12_alikeOnes_45 (Nat.le_of_ble_eq_true rfl) rfl ?_
        refine s_pick (lv' := [(0, .inr (.inr x0)), (1, .inl x1), (2, .inl x2), (3, .inl x3), (4, .inl x4), (5, .inl 0), (6, .inl 0)]) [2, 3, 4, 5, 6, 1, 0] rfl ?_
        exact GLp_X12_alikeOnes_47 _ _ _ _ _ _ _ _ _ (by intros; apply hP5; assumption) hV
      · have hV := hV.2 c
        refine s_iconst d_X12_alikeOnes_37 (okn rfl) ?_
        refine s_goto (tgt := 42) d_X12_alikeOnes_38 (by decide) ?_
        refine s_istore (lv' := [(5, .inl 1), (0, .inr (.inr x0)), (1, .inl x1), (2, .inl x2), (3, .inl x3), (4, .inl x4)]) d_X12_alikeOnes_42 (Nat.le_of_ble_eq_true rfl) rfl ?_
        refine s_iconst d_X12_alikeOnes_44 (okn rfl) ?_
        refine s_istore (lv' := [(6, .inl 0), (5, .inl 1), (0, .inr (.inr x0)), (1, .inl x1), (2, .inl x2), (3, .inl x3), (4, .inl x4)]) d_X12_alikeOnes_45 (Nat.le_of_ble_eq_true rfl) rfl ?_
        refine s_pick (lv' := [(0, .inr (.inr x0)), (1, .inl x1), (2, .inl x2), (3, .inl x3), (4, .inl x4), (5, .inl 1), (6, .inl 0)]) [2, 3, 4, 5, 6, 1, 0] rfl ?_
        exact GLp_X12_alikeOnes_47 _ _ _ _ _ _ _ _ _ (by intros; apply hP5; assumption) hV
def V_X12_alikeOnes (x0 : Nat) (x1 : Int) (x2 : Int) (h : Hp) (Q : Int → Hp → Prop) : Prop :=
  Lp_X12_alikeOnes_5 x0 x1 x2 0 0 h Q
theorem G_X12_alikeOnes {x0 : Nat} {x1 : Int} {x2 : Int} (h : Hp) (Q : Int → Hp → Prop) (hV : V_X12_alikeOnes x0 x1 x2 h Q) : C_X12_alikeOnes x0 x1 x2 h Q := by
  unfold V_X12_alikeOnes at hV
  show Go i_X12_alikeOnes 0 [(0, .inr (.inr x0)), (1, .inl x1), (2, .inl x2)] [] h (qI Q)
  refine s_iconst d_X12_alikeOnes_0 (okn rfl) ?_
  refine s_istore_n (lv' := [(3, .inl 0), (0, .inr (.inr x0)), (1, .inl x1), (2, .inl x2)]) d_X12_alikeOnes_1 rfl (Nat.le_of_ble_eq_true rfl) rfl ?_
  refine s_iconst d_X12_alikeOnes_2 (okn rfl) ?_
  refine s_istore (lv' := [(4, .inl 0), (3, .inl 0), (0, .inr (.inr x0)), (1, .inl x1), (2, .inl x2)]) d_X12_alikeOnes_3 (Nat.le_of_ble_eq_true rfl) rfl ?_
  refine s_pick (lv' := [(0, .inr (.inr x0)), (1, .inl x1), (2, .inl x2), (3, .inl 0), (4, .inl 0)]) [2, 3, 4, 1, 0] rfl ?_
  exact GLp_X12_alikeOnes_5 _ _ _ _ _ _ _ hV

theorem d_X12_ask_0 : decode i_X12_ask.2.1 0 = .ok (.aload_n 0, 1) := by decide +kernel
theorem d_X12_ask_1 : decode i_X12_ask.2.1 1 = .ok (.invokevirtual 273, 3) := by decide +kernel
theorem d_X12_ask_4 : decode i_X12_ask.2.1 4 = .ok (.istore_n 1, 1) := by decide +kernel
theorem d_X12_ask_5 : decode i_X12_ask.2.1 5 = .ok (.iconst 0, 1) := by decide +kernel
theorem d_X12_ask_6 : decode i_X12_ask.2.1 6 = .ok (.istore_n 2, 1) := by decide +kernel
theorem d_X12_ask_7 : decode i_X12_ask.2.1 7 = .ok (.iconst 0, 1) := by decide +kernel
theorem d_X12_ask_8 : decode i_X12_ask.2.1 8 = .ok (.istore_n 3, 1) := by decide +kernel
theorem d_X12_ask_9 : decode i_X12_ask.2.1 9 = .ok (.iload_n 3, 1) := by decide +kernel
theorem d_X12_ask_10 : decode i_X12_ask.2.1 10 = .ok (.bipush 6, 2) := by decide +kernel
theorem d_X12_ask_12 : decode i_X12_ask.2.1 12 = .ok (.if_icmp .ge 25, 3) := by decide +kernel
theorem d_X12_ask_15 : decode i_X12_ask.2.1 15 = .ok (.iload_n 2, 1) := by decide +kernel
theorem d_X12_ask_16 : decode i_X12_ask.2.1 16 = .ok (.iload_n 1, 1) := by decide +kernel
theorem d_X12_ask_17 : decode i_X12_ask.2.1 17 = .ok (.iload_n 3, 1) := by decide +kernel
theorem d_X12_ask_18 : decode i_X12_ask.2.1 18 = .ok (.invokestatic 152, 3) := by decide +kernel
theorem d_X12_ask_21 : decode i_X12_ask.2.1 21 = .ok (.ifCond .eq 7, 3) := by decide +kernel
theorem d_X12_ask_24 : decode i_X12_ask.2.1 24 = .ok (.iconst 1, 1) := by decide +kernel
theorem d_X12_ask_25 : decode i_X12_ask.2.1 25 = .ok (.goto 4, 3) := by decide +kernel
theorem d_X12_ask_28 : decode i_X12_ask.2.1 28 = .ok (.iconst 0, 1) := by decide +kernel
theorem d_X12_ask_29 : decode i_X12_ask.2.1 29 = .ok (.iadd, 1) := by decide +kernel
theorem d_X12_ask_30 : decode i_X12_ask.2.1 30 = .ok (.istore_n 2, 1) := by decide +kernel
theorem d_X12_ask_31 : decode i_X12_ask.2.1 31 = .ok (.iinc 3 1, 3) := by decide +kernel
theorem d_X12_ask_34 : decode i_X12_ask.2.1 34 = .ok (.goto (-25), 3) := by decide +kernel
theorem d_X12_ask_37 : decode i_X12_ask.2.1 37 = .ok (.iconst (-1), 1) := by decide +kernel
theorem d_X12_ask_38 : decode i_X12_ask.2.1 38 = .ok (.istore_n 3, 1) := by decide +kernel
theorem d_X12_ask_39 : decode i_X12_ask.2.1 39 = .ok (.iconst 0, 1) := by decide +kernel
theorem d_X12_ask_40 : decode i_X12_ask.2.1 40 = .ok (.istore 4, 2) := by decide +kernel
theorem d_X12_ask_42 : decode i_X12_ask.2.1 42 = .ok (.iload 4, 2) := by decide +kernel
theorem d_X12_ask_44 : decode i_X12_ask.2.1 44 = .ok (.aload_n 0, 1) := by decide +kernel
theorem d_X12_ask_45 : decode i_X12_ask.2.1 45 = .ok (.getfield 140, 3) := by decide +kernel
theorem d_X12_ask_48 : decode i_X12_ask.2.1 48 = .ok (.if_icmp .ge 148, 3) := by decide +kernel
theorem d_X12_ask_51 : decode i_X12_ask.2.1 51 = .ok (.iconst 0, 1) := by decide +kernel
theorem d_X12_ask_52 : decode i_X12_ask.2.1 52 = .ok (.istore 5, 2) := by decide +kernel
theorem d_X12_ask_54 : decode i_X12_ask.2.1 54 = .ok (.iload 5, 2) := by decide +kernel
theorem d_X12_ask_56 : decode i_X12_ask.2.1 56 = .ok (.bipush 6, 2) := by decide +kernel
theorem d_X12_ask_58 : decode i_X12_ask.2.1 58 = .ok (.if_icmp .ge 49, 3) := by decide +kernel
theorem d_X12_ask_61 : decode i_X12_ask.2.1 61 = .ok (.aload_n 0, 1) := by decide +kernel
theorem d_X12_ask_62 : decode i_X12_ask.2.1 62 = .ok (.iload 4, 2) := by decide +kernel
theorem d_X12_ask_64 : decode i_X12_ask.2.1 64 = .ok (.iload 5, 2) := by decide +kernel
theorem d_X12_ask_66 : decode i_X12_ask.2.1 66 = .ok (.invokevirtual 268, 3) := by decide +kernel
theorem d_X12_ask_69 : decode i_X12_ask.2.1 69 = .ok (.aload_n 0, 1) := by decide +kernel
theorem d_X12_ask_70 : decode i_X12_ask.2.1 70 = .ok (.getfield 87, 3) := by decide +kernel
theorem d_X12_ask_73 : decode i_X12_ask.2.1 73 = .ok (.iload 5, 2) := by decide +kernel
theorem d_X12_ask_75 : decode i_X12_ask.2.1 75 = .ok (.aload_n 0, 1) := by decide +kernel
theorem d_X12_ask_76 : decode i_X12_ask.2.1 76 = .ok (.getfield 186, 3) := by decide +kernel
theorem d_X12_ask_79 : decode i_X12_ask.2.1 79 = .ok (.iastore, 1) := by decide +kernel
theorem d_X12_ask_80 : decode i_X12_ask.2.1 80 = .ok (.aload_n 0, 1) := by decide +kernel
theorem d_X12_ask_81 : decode i_X12_ask.2.1 81 = .ok (.getfield 63, 3) := by decide +kernel
theorem d_X12_ask_84 : decode i_X12_ask.2.1 84 = .ok (.iconst 0, 1) := by decide +kernel
theorem d_X12_ask_85 : decode i_X12_ask.2.1 85 = .ok (.aload_n 0, 1) := by decide +kernel
theorem d_X12_ask_86 : decode i_X12_ask.2.1 86 = .ok (.getfield 84, 3) := by decide +kernel
theorem d_X12_ask_89 : decode i_X12_ask.2.1 89 = .ok (.bipush 20, 2) := by decide +kernel
theorem d_X12_ask_91 : decode i_X12_ask.2.1 91 = .ok (.iload 5, 2) := by decide +kernel
theorem d_X12_ask_93 : decode i_X12_ask.2.1 93 = .ok (.imul, 1) := by decide +kernel
theorem d_X12_ask_94 : decode i_X12_ask.2.1 94 = .ok (.aload_n 0, 1) := by decide +kernel
theorem d_X12_ask_95 : decode i_X12_ask.2.1 95 = .ok (.getfield 186, 3) := by decide +kernel
theorem d_X12_ask_98 : decode i_X12_ask.2.1 98 = .ok (.invokestatic 136, 3) := by decide +kernel
theorem d_X12_ask_101 : decode i_X12_ask.2.1 101 = .ok (.iinc 5 1, 3) := by decide +kernel
theorem d_X12_ask_104 : decode i_X12_ask.2.1 104 = .ok (.goto (-50), 3) := by decide +kernel
theorem d_X12_ask_107 : decode i_X12_ask.2.1 107 = .ok (.iconst 0, 1) := by decide +kernel
theorem d_X12_ask_108 : decode i_X12_ask.2.1 108 = .ok (.istore 5, 2) := by decide +kernel
theorem d_X12_ask_110 : decode i_X12_ask.2.1 110 = .ok (.iconst 0, 1) := by decide +kernel
theorem d_X12_ask_111 : decode i_X12_ask.2.1 111 = .ok (.istore 6, 2) := by decide +kernel
theorem d_X12_ask_113 : decode i_X12_ask.2.1 113 = .ok (.iload 6, 2) := by decide +kernel
theorem d_X12_ask_115 : decode i_X12_ask.2.1 115 = .ok (.bipush 6, 2) := by decide +kernel
theorem d_X12_ask_117 : decode i_X12_ask.2.1 117 = .ok (.if_icmp .ge 47, 3) := by decide +kernel
theorem d_X12_ask_120 : decode i_X12_ask.2.1 120 = .ok (.iload_n 1, 1) := by decide +kernel
theorem d_X12_ask_121 : decode i_X12_ask.2.1 121 = .ok (.iload 6, 2) := by decide +kernel
theorem d_X12_ask_123 : decode i_X12_ask.2.1 123 = .ok (.invokestatic 152, 3) := by decide +kernel
theorem d_X12_ask_126 : decode i_X12_ask.2.1 126 = .ok (.ifCond .eq 13, 3) := by decide +kernel
theorem d_X12_ask_129 : decode i_X12_ask.2.1 129 = .ok (.aload_n 0, 1) := by decide +kernel
theorem d_X12_ask_130 : decode i_X12_ask.2.1 130 = .ok (.iload_n 1, 1) := by decide +kernel
theorem d_X12_ask_131 : decode i_X12_ask.2.1 131 = .ok (.iload 6, 2) := by decide +kernel
theorem d_X12_ask_133 : decode i_X12_ask.2.1 133 = .ok (.invokevirtual 276, 3) := by decide +kernel
theorem d_X12_ask_136 : decode i_X12_ask.2.1 136 = .ok (.goto 4, 3) := by decide +kernel
theorem d_X12_ask_139 : decode i_X12_ask.2.1 139 = .ok (.iconst 0, 1) := by decide +kernel
theorem d_X12_ask_140 : decode i_X12_ask.2.1 140 = .ok (.istore 7, 2) := by decide +kernel
theorem d_X12_ask_142 : decode i_X12_ask.2.1 142 = .ok (.iload 7, 2) := by decide +kernel
theorem d_X12_ask_144 : decode i_X12_ask.2.1 144 = .ok (.iload 5, 2) := by decide +kernel
theorem d_X12_ask_146 : decode i_X12_ask.2.1 146 = .ok (.if_icmp .le 8, 3) := by decide +kernel
theorem d_X12_ask_149 : decode i_X12_ask.2.1 149 = .ok (.iload 7, 2) := by decide +kernel
theorem d_X12_ask_151 : decode i_X12_ask.2.1 151 = .ok (.goto 5, 3) := by decide +kernel
theorem d_X12_ask_154 : decode i_X12_ask.2.1 154 = .ok (.iload 5, 2) := by decide +kernel
theorem d_X12_ask_156 : decode i_X12_ask.2.1 156 = .ok (.istore 5, 2) := by decide +kernel
theorem d_X12_ask_158 : decode i_X12_ask.2.1 158 = .ok (.iinc 6 1, 3) := by decide +kernel
theorem d_X12_ask_161 : decode i_X12_ask.2.1 161 = .ok (.goto (-48), 3) := by decide +kernel
theorem d_X12_ask_164 : decode i_X12_ask.2.1 164 = .ok (.iload 5, 2) := by decide +kernel
theorem d_X12_ask_166 : decode i_X12_ask.2.1 166 = .ok (.iload_n 2, 1) := by decide +kernel
theorem d_X12_ask_167 : decode i_X12_ask.2.1 167 = .ok (.if_icmp .ge 8, 3) := by decide +kernel
theorem d_X12_ask_170 : decode i_X12_ask.2.1 170 = .ok (.iload 4, 2) := by decide +kernel
theorem d_X12_ask_172 : decode i_X12_ask.2.1 172 = .ok (.goto 4, 3) := by decide +kernel
theorem d_X12_ask_175 : decode i_X12_ask.2.1 175 = .ok (.iload_n 3, 1) := by decide +kernel
theorem d_X12_ask_176 : decode i_X12_ask.2.1 176 = .ok (.istore_n 3, 1) := by decide +kernel
theorem d_X12_ask_177 : decode i_X12_ask.2.1 177 = .ok (.iload 5, 2) := by decide +kernel
theorem d_X12_ask_179 : decode i_X12_ask.2.1 179 = .ok (.iload_n 2, 1) := by decide +kernel
theorem d_X12_ask_180 : decode i_X12_ask.2.1 180 = .ok (.if_icmp .ge 8, 3) := by decide +kernel
theorem d_X12_ask_183 : decode i_X12_ask.2.1 183 = .ok (.iload 5, 2) := by decide +kernel
theorem d_X12_ask_185 : decode i_X12_ask.2.1 185 = .ok (.goto 4, 3) := by decide +kernel
theorem d_X12_ask_188 : decode i_X12_ask.2.1 188 = .ok (.iload_n 2, 1) := by decide +kernel
theorem d_X12_ask_189 : decode i_X12_ask.2.1 189 = .ok (.istore_n 2, 1) := by decide +kernel
theorem d_X12_ask_190 : decode i_X12_ask.2.1 190 = .ok (.iinc 4 1, 3) := by decide +kernel
theorem d_X12_ask_193 : decode i_X12_ask.2.1 193 = .ok (.goto (-151), 3) := by decide +kernel
theorem d_X12_ask_196 : decode i_X12_ask.2.1 196 = .ok (.iload_n 3, 1) := by decide +kernel
theorem d_X12_ask_197 : decode i_X12_ask.2.1 197 = .ok (.ireturn, 1) := by decide +kernel
def J_X12_ask_176 (P42 : Int → Int → Int → Hp → Prop) (x0 : Nat) (x1 : Int) (x2 : Int) (x4 : Int) (x5 : Int) (y0 : Int) (h : Hp) (Q : Int → Hp → Prop) : Prop :=
  (x2 ≤ x5 → (((-2147483648 : Int) ≤ x4 + 1 ∧ x4 + 1 ≤ (2147483647 : Int)) ∧ (P42 x2 y0 (x4 + 1) h))) ∧ (¬ x2 ≤ x5 → (((-2147483648 : Int) ≤ x4 + 1 ∧ x4 + 1 ≤ (2147483647 : Int)) ∧ (P42 x5 y0 (x4 + 1) h)))
theorem GJ_X12_ask_176 {P42 : Int → Int → Int → Hp → Prop} (x0 : Nat) (x1 : Int) (x2 : Int) (x4 : Int) (x5 : Int) (y0 : Int) (h : Hp) (Q : Int → Hp → Prop) (hP42 : ∀ (m2 : Int) (m3 : Int) (m4 : Int) (h : Hp), P42 m2 m3 m4 h → Go i_X12_ask 42 [(0, .inr (.inr x0)), (1, .inl x1), (2, .inl m2), (3, .inl m3), (4, .inl m4)] [] h (qI Q)) (hV : J_X12_ask_176 P42 x0 x1 x2 x4 x5 y0 h Q) : Go i_X12_ask 176 [(0, .inr (.inr x0)), (1, .inl x1), (2, .inl x2), (4, .inl x4), (5, .inl x5)] [.inl y0] h (qI Q) := by
  unfold J_X12_ask_176 at hV
  refine s_istore_n (lv' := [(3, .inl y0), (0, .inr (.inr x0)), (1, .inl x1), (2, .inl x2), (4, .inl x4), (5, .inl x5)]) d_X12_ask_176 rfl (Nat.le_of_ble_eq_true rfl) rfl ?_
  refine s_iload d_X12_ask_177 (ma 5 rfl) ?_
  refine s_iload_n d_X12_ask_179 rfl (ma 3 rfl) ?_
  refine s_icmp_ge (tgt := 188) d_X12_ask_180 (by decide) (fun c => ?_) (fun c => ?_)
  · have hV := hV.1 c
    refine s_iload_n d_X12_ask_188 rfl (ma 3 rfl) ?_
    refine s_istore_n (lv' := [(2, .inl x2), (3, .inl y0), (0, .inr (.inr x0)), (1, .inl x1), (4, .inl x4), (5, .inl x5)]) d_X12_ask_189 rfl (Nat.le_of_ble_eq_true rfl) rfl ?_
    obtain ⟨o, hV⟩ := hV
    refine s_iinc (lv' := [(4, .inl (x4 + 1)), (2, .inl x2), (3, .inl y0), (0, .inr (.inr x0)), (1, .inl x1), (5, .inl x5)]) d_X12_ask_190 (ma 4 rfl) o (Nat.le_of_ble_eq_true rfl) rfl ?_
    refine s_goto (tgt := 42) d_X12_ask_193 (by decide) ?_
    refine s_pick (lv' := [(0, .inr (.inr x0)), (1, .inl x1), (2, .inl x2), (3, .inl y0), (4, .inl (x4 + 1))]) [3, 4, 1, 2, 0] rfl ?_
    exact hP42 _ _ _ _ hV
  · have hV := hV.2 c
    refine s_iload d_X12_ask_183 (ma 5 rfl) ?_
    refine s_goto (tgt := 189) d_X12_ask_185 (by decide) ?_
    refine s_istore_n (lv' := [(2, .inl x5), (3, .inl y0), (0, .inr (.inr x0)), (1, .inl x1), (4, .inl x4), (5, .inl x5)]) d_X12_ask_189 rfl (Nat.le_of_ble_eq_true rfl) rfl ?_
    obtain ⟨o, hV⟩ := hV
    refine s_iinc (lv' := [(4, .inl (x4 + 1)), (2, .inl x5), (3, .inl y0), (0, .inr (.inr x0)), (1, .inl x1), (5, .inl x5)]) d_X12_ask_190 (ma 4 rfl) o (Nat.le_of_ble_eq_true rfl) rfl ?_
    refine s_goto (tgt := 42) d_X12_ask_193 (by decide) ?_
    refine s_pick (lv' := [(0, .inr (.inr x0)), (1, .inl x1), (2, .inl x5), (3, .inl y0), (4, .inl (x4 + 1))]) [3, 4, 1, 2, 0] rfl ?_
    exact hP42 _ _ _ _ hV
def J_X12_ask_140 (P113 : Int → Int → Hp → Prop) (x0 : Nat) (x1 : Int) (x2 : Int) (x3 : Int) (x4 : Int) (x5 : Int) (x6 : Int) (y0 : Int) (h : Hp) (Q : Int → Hp → Prop) : Prop :=
  (y0 ≤ x5 → (((-2147483648 : Int) ≤ x6 + 1 ∧ x6 + 1 ≤ (2147483647 : Int)) ∧ (P113 x5 (x6 + 1) h))) ∧ (¬ y0 ≤ x5 → (((-2147483648 : Int) ≤ x6 + 1 ∧ x6 + 1 ≤ (2147483647 : Int)) ∧ (P113 y0 (x6 + 1) h)))
theorem GJ_X12_ask_140 {P113 : Int → Int → Hp → Prop} (x0 : Nat) (x1 : Int) (x2 : Int) (x3 : Int) (x4 : Int) (x5 : Int) (x6 : Int) (y0 : Int) (h : Hp) (Q : Int → Hp → Prop) (hP113 : ∀ (m5 : Int) (m6 : Int) (h : Hp), P113 m5 m6 h → Go i_X12_ask 113 [(0, .inr (.inr x0)), (1, .inl x1), (2, .inl x2), (3, .inl x3), (4, .inl x4), (5, .inl m5), (6, .inl m6)] [] h (qI Q)) (hV : J_X12_ask_140 P113 x0 x1 x2 x3 x4 x5 x6 y0 h Q) : Go i_X12_ask 140 [(0, .inr (.inr x0)), (1, .inl x1), (2, .inl x2), (3, .inl x3), (4, .inl x4), (5, .inl x5), (6, .inl x6)] [.inl y0] h (qI Q) := by
  unfold J_X12_ask_140 at hV
  refine s_istore (lv' := [(7, .inl y0), (0, .inr (.inr x0)), (1, .inl x1), (2, .inl x2), (3, .inl x3), (4, .inl x4), (5, .inl x5), (6, .inl x6)]) d_X12_ask_140 (Nat.le_of_ble_eq_true rfl) rfl ?_
  refine s_iload d_X12_ask_142 (ma 0 rfl) ?_
  refine s_iload d_X12_ask_144 (ma 6 rfl) ?_
  refine s_icmp_le (tgt := 154) d_X12_ask_146 (by decide) (fun c => ?_) (fun c => ?_)
  · have hV := hV.1 c
    refine s_iload d_X12_ask_154 (ma 6 rfl) ?_
    refine s_istore (lv' := [(5, .inl x5), (7, .inl y0), (0, .inr (.inr x0)), (1, .inl x1), (2, .inl x2), (3, .inl x3), (4, .inl x4), (6, .inl x6)]) d_X12_ask_156 (Nat.le_of_ble_eq_true rfl) rfl ?_
    obtain ⟨o, hV⟩ := hV
    refine s_iinc (lv' := [(6, .inl (x6 + 1)), (5, .inl x5), (7, .inl y0), (0, .inr (.inr x0)), (1, .inl x1), (2, .inl x2), (3, .inl x3), (4, .inl x4)]) d_X12_ask_158 (ma 7 rfl) o (Nat.le_of_ble_eq_true rfl) rfl ?_
    refine s_goto (tgt := 113) d_X12_ask_161 (by decide) ?_
    refine s_pick (lv' := [(0, .inr (.inr x0)), (1, .inl x1), (2, .inl x2), (3, .inl x3), (4, .inl x4), (5, .inl x5), (6, .inl (x6 + 1))]) [3, 4, 5, 6, 7, 1, 0] rfl ?_
    exact hP113 _ _ _ hV
  · have hV := hV.2 c
    refine s_iload d_X12_ask_149 (ma 0 rfl) ?_
    refine s_goto (tgt := 156) d_X12_ask_151 (by decide) ?_
    refine s_istore (lv' := [(5, .inl y0), (7, .inl y0), (0, .inr (.inr x0)), (1, .inl x1), (2, .inl x2), (3, .inl x3), (4, .inl x4), (6, .inl x6)]) d_X12_ask_156 (Nat.le_of_ble_eq_true rfl) rfl ?_
    obtain ⟨o, hV⟩ := hV
    refine s_iinc (lv' := [(6, .inl (x6 + 1)), (5, .inl y0), (7, .inl y0), (0, .inr (.inr x0)), (1, .inl x1), (2, .inl x2), (3, .inl x3), (4, .inl x4)]) d_X12_ask_158 (ma 7 rfl) o (Nat.le_of_ble_eq_true rfl) rfl ?_
    refine s_goto (tgt := 113) d_X12_ask_161 (by decide) ?_
    refine s_pick (lv' := [(0, .inr (.inr x0)), (1, .inl x1), (2, .inl x2), (3, .inl x3), (4, .inl x4), (5, .inl y0), (6, .inl (x6 + 1))]) [3, 4, 5, 6, 7, 1, 0] rfl ?_
    exact hP113 _ _ _ hV
def BLp_X12_ask_113 (P42 : Int → Int → Int → Hp → Prop) (x0 : Nat) (x1 : Int) (x2 : Int) (x3 : Int) (x4 : Int) (P113 : Int → Int → Hp → Prop) (x5 : Int) (x6 : Int) (h : Hp) (Q : Int → Hp → Prop) : Prop :=
  (6 ≤ x6 → ((x2 ≤ x5 → (J_X12_ask_176 P42 x0 x1 x2 x4 x5 x3 h Q)) ∧ (¬ x2 ≤ x5 → (J_X12_ask_176 P42 x0 x1 x2 x4 x5 x4 h Q)))) ∧ (¬ 6 ≤ x6 → (C_X12_has x1 x6 h (fun r2 h1 => ((r2 = 0 → (J_X12_ask_140 P113 x0 x1 x2 x3 x4 x5 x6 0 h1 Q)) ∧ (¬ r2 = 0 → (hK h1 x0 = 11 ∧ C_X12_alikeOnes x0 x1 x6 h1 (fun r4 h3 => (J_X12_ask_140 P113 x0 x1 x2 x3 x4 x5 x6 r4 h3 Q))))))))
def Lp_X12_ask_113 (P42 : Int → Int → Int → Hp → Prop) (x0 : Nat) (x1 : Int) (x2 : Int) (x3 : Int) (x4 : Int) (x5 : Int) (x6 : Int) (h : Hp) (Q : Int → Hp → Prop) : Prop := ∀ P113 : Int → Int → Hp → Prop, (∀ (x5 : Int) (x6 : Int) (h : Hp), BLp_X12_ask_113 P42 x0 x1 x2 x3 x4 P113 x5 x6 h Q → P113 x5 x6 h) → P113 x5 x6 h
theorem Lp_X12_ask_113_ind {P42 : Int → Int → Int → Hp → Prop} {x0 : Nat} {x1 : Int} {x2 : Int} {x3 : Int} {x4 : Int} {Q : Int → Hp → Prop} (I : Int → Int → Hp → Prop) (μ : Int → Int → Hp → Nat) (hs : ∀ (P113 : Int → Int → Hp → Prop) (x5 : Int) (x6 : Int) (h : Hp), I x5 x6 h → (∀ (x5' : Int) (x6' : Int) (h' : Hp), I x5' x6' h' → μ x5' x6' h' < μ x5 x6 h → P113 x5' x6' h') → BLp_X12_ask_113 P42 x0 x1 x2 x3 x4 P113 x5 x6 h Q) : ∀ (x5 : Int) (x6 : Int) (h : Hp), I x5 x6 h → Lp_X12_ask_113 P42 x0 x1 x2 x3 x4 x5 x6 h Q := by
  intro x5 x6 h hI P113 hP
  have key : ∀ (n : Nat) (x5 : Int) (x6 : Int) (h : Hp), I x5 x6 h → μ x5 x6 h < n → P113 x5 x6 h := by
    intro n
    induction n with
    | zero => intro x5 x6 h _ hl; exact absurd hl (Nat.not_lt_zero _)
    | succ n ih => intro x5 x6 h hi hl; exact hP x5 x6 h (hs P113 x5 x6 h hi (fun x5 x6 h' hi' hl' => ih x5 x6 h' hi' (by omega)))
  exact key _ x5 x6 h hI (Nat.lt_succ_self _)
theorem GLp_X12_ask_113 {P42 : Int → Int → Int → Hp → Prop} (x0 : Nat) (x1 : Int) (x2 : Int) (x3 : Int) (x4 : Int) (x5 : Int) (x6 : Int) (h : Hp) (Q : Int → Hp → Prop) (hP42 : ∀ (m2 : Int) (m3 : Int) (m4 : Int) (h : Hp), P42 m2 m3 m4 h → Go i_X12_ask 42 [(0, .inr (.inr x0)), (1, .inl x1), (2, .inl m2), (3, .inl m3), (4, .inl m4)] [] h (qI Q)) (hV : Lp_X12_ask_113 P42 x0 x1 x2 x3 x4 x5 x6 h Q) : Go i_X12_ask 113 [(0, .inr (.inr x0)), (1, .inl x1), (2, .inl x2), (3, .inl x3), (4, .inl x4), (5, .inl x5), (6, .inl x6)] [] h (qI Q) := by
  refine hV (fun x5 x6 h => Go i_X12_ask 113 [(0, .inr (.inr x0)), (1, .inl x1), (2, .inl x2), (3, .inl x3), (4, .inl x4), (5, .inl x5), (6, .inl x6)] [] h (qI Q)) (fun x5 x6 h hV => ?_)
  unfold BLp_X12_ask_113 at hV
  have hP113 : ∀ (x5 : Int) (x6 : Int) (h : Hp), Go i_X12_ask 113 [(0, .inr (.inr x0)), (1, .inl x1), (2, .inl x2), (3, .inl x3), (4, .inl x4), (5, .inl x5), (6, .inl x6)] [] h (qI Q) → Go i_X12_ask 113 [(0, .inr (.inr x0)), (1, .inl x1), (2, .inl x2), (3, .inl x3), (4, .inl x4), (5, .inl x5), (6, .inl x6)] [] h (qI Q) := fun _ _ h z => z
  refine s_iload d_X12_ask_113 (ma 6 rfl) ?_
  refine s_bipush d_X12_ask_115 (by decide) (okn rfl) ?_
  refine s_icmp_ge (tgt := 164) d_X12_ask_117 (by decide) (fun c => ?_) (fun c => ?_)
  · have hV := hV.1 c
    refine s_iload d_X12_ask_164 (ma 5 rfl) ?_
    refine s_iload_n d_X12_ask_166 rfl (ma 2 rfl) ?_
    refine s_icmp_ge (tgt := 175) d_X12_ask_167 (by decide) (fun c => ?_) (fun c => ?_)
    · have hV := hV.1 c
      refine s_iload_n d_X12_ask_175 rfl (ma 3 rfl) ?_
      refine s_pick (lv' := [(0, .inr (.inr x0)), (1, .inl x1), (2, .inl x2), (4, .inl x4), (5, .inl x5)]) [0, 1, 2, 4, 5] rfl ?_
      exact GJ_X12_ask_176 _ _ _ _ _ _ _ _ (by intros; apply hP42; assumption) hV
    · have hV := hV.2 c
      refine s_iload d_X12_ask_170 (ma 4 rfl) ?_
      refine s_goto (tgt := 176) d_X12_ask_172 (by decide) ?_
      refine s_pick (lv' := [(0, .inr (.inr x0)), (1, .inl x1), (2, .inl x2), (4, .inl x4), (5, .inl x5)]) [0, 1, 2, 4, 5] rfl ?_
      exact GJ_X12_ask_176 _ _ _ _ _ _ _ _ (by intros; apply hP42; assumption) hV
  · have hV := hV.2 c
    refine s_iload_n d_X12_ask_120 rfl (ma 1 rfl) ?_
    refine s_iload d_X12_ask_121 (ma 6 rfl) ?_
    refine v_RX12_152 rfl (Nat.le_of_ble_eq_true rfl) d_X12_ask_123 (Nat.le_of_ble_eq_true rfl) hV (fun r2 h1 hV => ?_)
    refine s_if_eq (tgt := 139) d_X12_ask_126 (by decide) (fun c => ?_) (fun c => ?_)
    · have hV := hV.1 c
      refine s_iconst d_X12_ask_139 (okn rfl) ?_
      exact GJ_X12_ask_140 _ _ _ _ _ _ _ _ _ _ (by intros; apply hP113; assumption) hV
    · have hV := hV.2 c
      refine s_aload_n d_X12_ask_129 rfl (ma 0 rfl) ?_
      refine s_iload_n d_X12_ask_130 rfl (ma 1 rfl) ?_
      refine s_iload d_X12_ask_131 (ma 6 rfl) ?_
      obtain ⟨o, hV⟩ := hV
      refine v_RX12_276 rfl (Nat.le_of_ble_eq_true rfl) d_X12_ask_133 o (Nat.le_of_ble_eq_true rfl) hV (fun r4 h3 hV => ?_)
      refine s_goto (tgt := 140) d_X12_ask_136 (by decide) ?_
      exact GJ_X12_ask_140 _ _ _ _ _ _ _ _ _ _ (by intros; apply hP113; assumption) hV
def BLp_X12_ask_54 (P42 : Int → Int → Int → Hp → Prop) (x0 : Nat) (x1 : Int) (x2 : Int) (x3 : Int) (x4 : Int) (P54 : Int → Hp → Prop) (x5 : Int) (h : Hp) (Q : Int → Hp → Prop) : Prop :=
  (6 ≤ x5 → (Lp_X12_ask_113 P42 x0 x1 x2 x3 x4 0 0 h Q)) ∧ (¬ 6 ≤ x5 → (hK h x0 = 11 ∧ C_X12_readWord x0 x4 x5 h (fun h1 => (hK h1 x0 = 11 ∧ (hK h1 x0 = 11 ∧ ((hK h1 (hR h1 x0 39) = 12 ∧ (0 : Int) ≤ x5 ∧ x5 < hL h1 (hR h1 x0 39)) ∧ ∀ h2 : Hp, h2 = wI h1 (hR h1 x0 39) x5 (hI h1 x0 29) → (hK h2 x0 = 11 ∧ (hK h2 x0 = 11 ∧ (((-2147483648 : Int) ≤ 20 * x5 ∧ 20 * x5 ≤ (2147483647 : Int)) ∧ (hK h2 x0 = 11 ∧ (C_X12_bring (hR h2 x0 28) 0 (hR h2 x0 38) (20 * x5) (hI h2 x0 29) h2 (fun h3 => (((-2147483648 : Int) ≤ x5 + 1 ∧ x5 + 1 ≤ (2147483647 : Int)) ∧ (P54 (x5 + 1) h3))))))))))))))
def Lp_X12_ask_54 (P42 : Int → Int → Int → Hp → Prop) (x0 : Nat) (x1 : Int) (x2 : Int) (x3 : Int) (x4 : Int) (x5 : Int) (h : Hp) (Q : Int → Hp → Prop) : Prop := ∀ P54 : Int → Hp → Prop, (∀ (x5 : Int) (h : Hp), BLp_X12_ask_54 P42 x0 x1 x2 x3 x4 P54 x5 h Q → P54 x5 h) → P54 x5 h
theorem Lp_X12_ask_54_ind {P42 : Int → Int → Int → Hp → Prop} {x0 : Nat} {x1 : Int} {x2 : Int} {x3 : Int} {x4 : Int} {Q : Int → Hp → Prop} (I : Int → Hp → Prop) (μ : Int → Hp → Nat) (hs : ∀ (P54 : Int → Hp → Prop) (x5 : Int) (h : Hp), I x5 h → (∀ (x5' : Int) (h' : Hp), I x5' h' → μ x5' h' < μ x5 h → P54 x5' h') → BLp_X12_ask_54 P42 x0 x1 x2 x3 x4 P54 x5 h Q) : ∀ (x5 : Int) (h : Hp), I x5 h → Lp_X12_ask_54 P42 x0 x1 x2 x3 x4 x5 h Q := by
  intro x5 h hI P54 hP
  have key : ∀ (n : Nat) (x5 : Int) (h : Hp), I x5 h → μ x5 h < n → P54 x5 h := by
    intro n
    induction n with
    | zero => intro x5 h _ hl; exact absurd hl (Nat.not_lt_zero _)
    | succ n ih => intro x5 h hi hl; exact hP x5 h (hs P54 x5 h hi (fun x5 h' hi' hl' => ih x5 h' hi' (by omega)))
  exact key _ x5 h hI (Nat.lt_succ_self _)
theorem GLp_X12_ask_54 {P42 : Int → Int → Int → Hp → Prop} (x0 : Nat) (x1 : Int) (x2 : Int) (x3 : Int) (x4 : Int) (x5 : Int) (h : Hp) (Q : Int → Hp → Prop) (hP42 : ∀ (m2 : Int) (m3 : Int) (m4 : Int) (h : Hp), P42 m2 m3 m4 h → Go i_X12_ask 42 [(0, .inr (.inr x0)), (1, .inl x1), (2, .inl m2), (3, .inl m3), (4, .inl m4)] [] h (qI Q)) (hV : Lp_X12_ask_54 P42 x0 x1 x2 x3 x4 x5 h Q) : Go i_X12_ask 54 [(0, .inr (.inr x0)), (1, .inl x1), (2, .inl x2), (3, .inl x3), (4, .inl x4), (5, .inl x5)] [] h (qI Q) := by
  refine hV (fun x5 h => Go i_X12_ask 54 [(0, .inr (.inr x0)), (1, .inl x1), (2, .inl x2), (3, .inl x3), (4, .inl x4), (5, .inl x5)] [] h (qI Q)) (fun x5 h hV => ?_)
  unfold BLp_X12_ask_54 at hV
  have hP54 : ∀ (x5 : Int) (h : Hp), Go i_X12_ask 54 [(0, .inr (.inr x0)), (1, .inl x1), (2, .inl x2), (3, .inl x3), (4, .inl x4), (5, .inl x5)] [] h (qI Q) → Go i_X12_ask 54 [(0, .inr (.inr x0)), (1, .inl x1), (2, .inl x2), (3, .inl x3), (4, .inl x4), (5, .inl x5)] [] h (qI Q) := fun _ h z => z
  refine s_iload d_X12_ask_54 (ma 5 rfl) ?_
  refine s_bipush d_X12_ask_56 (by decide) (okn rfl) ?_
  refine s_icmp_ge (tgt := 107) d_X12_ask_58 (by decide) (fun c => ?_) (fun c => ?_)
  · have hV := hV.1 c
    refine s_iconst d_X12_ask_107 (okn rfl) ?_
    refine s_istore (lv' := [(5, .inl 0), (0, .inr (.inr x0)), (1, .inl x1), (2, .inl x2), (3, .inl x3), (4, .inl x4)]) d_X12_ask_108 (Nat.le_of_ble_eq_true rfl) rfl ?_
    refine s_iconst d_X12_ask_110 (okn rfl) ?_
    refine s_istore (lv' := [(6, .inl 0), (5, .inl 0), (0, .inr (.inr x0)), (1, .inl x1), (2, .inl x2), (3, .inl x3), (4, .inl x4)]) d_X12_ask_111 (Nat.le_of_ble_eq_true rfl) rfl ?_
    refine s_pick (lv' := [(0, .inr (.inr x0)), (1, .inl x1), (2, .inl x2), (3, .inl x3), (4, .inl x4), (5, .inl 0), (6, .inl 0)]) [2, 3, 4, 5, 6, 1, 0] rfl ?_
    exact GLp_X12_ask_113 _ _ _ _ _ _ _ _ _ (by intros; apply hP42; assumption) hV
  · have hV := hV.2 c
    refine s_aload_n d_X12_ask_61 rfl (ma 0 rfl) ?_
    refine s_iload d_X12_ask_62 (ma 4 rfl) ?_
    refine s_iload d_X12_ask_64 (ma 5 rfl) ?_
    obtain ⟨o, hV⟩ := hV
    refine v_RX12_268 rfl (Nat.le_of_ble_eq_true rfl) d_X12_ask_66 o (Nat.le_of_ble_eq_true rfl) hV (fun h1 hV => ?_)
    refine s_aload_n d_X12_ask_69 rfl (ma 0 rfl) ?_
    obtain ⟨o, hV⟩ := hV
    refine f_RX12_87g rfl d_X12_ask_70 o ?_
    refine s_iload d_X12_ask_73 (ma 5 rfl) ?_
    refine s_aload_n d_X12_ask_75 rfl (ma 0 rfl) ?_
    obtain ⟨o, hV⟩ := hV
    refine f_RX12_186g rfl d_X12_ask_76 o ?_
    obtain ⟨o, hV⟩ := hV
    refine s_iast d_X12_ask_79 o.1 o.2.1 o.2.2 ?_
    refine s_nmH (fun h2 eh2 => ?_)
    have hV := hV h2 eh2
    refine s_aload_n d_X12_ask_80 rfl (ma 0 rfl) ?_
    obtain ⟨o, hV⟩ := hV
    refine f_RX12_63g rfl d_X12_ask_81 o ?_
    refine s_iconst d_X12_ask_84 (okn rfl) ?_
    refine s_aload_n d_X12_ask_85 rfl (ma 0 rfl) ?_
    obtain ⟨o, hV⟩ := hV
    refine f_RX12_84g rfl d_X12_ask_86 o ?_
    refine s_bipush d_X12_ask_89 (by decide) (okn rfl) ?_
    refine s_iload d_X12_ask_91 (ma 5 rfl) ?_
    obtain ⟨o, hV⟩ := hV
    refine s_imul d_X12_ask_93 o ?_
    refine s_aload_n d_X12_ask_94 rfl (ma 0 rfl) ?_
    obtain ⟨o, hV⟩ := hV
    refine f_RX12_186g rfl d_X12_ask_95 o ?_
    refine v_RX12_136 rfl (Nat.le_of_ble_eq_true rfl) d_X12_ask_98 (Nat.le_of_ble_eq_true rfl) hV (fun h3 hV => ?_)
    obtain ⟨o, hV⟩ := hV
    refine s_iinc (lv' := [(5, .inl (x5 + 1)), (0, .inr (.inr x0)), (1, .inl x1), (2, .inl x2), (3, .inl x3), (4, .inl x4)]) d_X12_ask_101 (ma 5 rfl) o (Nat.le_of_ble_eq_true rfl) rfl ?_
    refine s_goto (tgt := 54) d_X12_ask_104 (by decide) ?_
    refine s_pick (lv' := [(0, .inr (.inr x0)), (1, .inl x1), (2, .inl x2), (3, .inl x3), (4, .inl x4), (5, .inl (x5 + 1))]) [1, 2, 3, 4, 5, 0] rfl ?_
    exact hP54 _ _ hV
def BLp_X12_ask_42 (x0 : Nat) (x1 : Int) (P42 : Int → Int → Int → Hp → Prop) (x2 : Int) (x3 : Int) (x4 : Int) (h : Hp) (Q : Int → Hp → Prop) : Prop :=
  hK h x0 = 11 ∧ ((hI h x0 11 ≤ x4 → (Q x3 h)) ∧ (¬ hI h x0 11 ≤ x4 → (Lp_X12_ask_54 P42 x0 x1 x2 x3 x4 0 h Q)))
def Lp_X12_ask_42 (x0 : Nat) (x1 : Int) (x2 : Int) (x3 : Int) (x4 : Int) (h : Hp) (Q : Int → Hp → Prop) : Prop := ∀ P42 : Int → Int → Int → Hp → Prop, (∀ (x2 : Int) (x3 : Int) (x4 : Int) (h : Hp), BLp_X12_ask_42 x0 x1 P42 x2 x3 x4 h Q → P42 x2 x3 x4 h) → P42 x2 x3 x4 h
theorem Lp_X12_ask_42_ind {x0 : Nat} {x1 : Int} {Q : Int → Hp → Prop} (I : Int → Int → Int → Hp → Prop) (μ : Int → Int → Int → Hp → Nat) (hs : ∀ (P42 : Int → Int → Int → Hp → Prop) (x2 : Int) (x3 : Int) (x4 : Int) (h : Hp), I x2 x3 x4 h → (∀ (x2' : Int) (x3' : Int) (x4' : Int) (h' : Hp), I x2' x3' x4' h' → μ x2' x3' x4' h' < μ x2 x3 x4 h → P42 x2' x3' x4' h') → BLp_X12_ask_42 x0 x1 P42 x2 x3 x4 h Q) : ∀ (x2 : Int) (x3 : Int) (x4 : Int) (h : Hp), I x2 x3 x4 h → Lp_X12_ask_42 x0 x1 x2 x3 x4 h Q := by
  intro x2 x3 x4 h hI P42 hP
  have key : ∀ (n : Nat) (x2 : Int) (x3 : Int) (x4 : Int) (h : Hp), I x2 x3 x4 h → μ x2 x3 x4 h < n → P42 x2 x3 x4 h := by
    intro n
    induction n with
    | zero => intro x2 x3 x4 h _ hl; exact absurd hl (Nat.not_lt_zero _)
    | succ n ih => intro x2 x3 x4 h hi hl; exact hP x2 x3 x4 h (hs P42 x2 x3 x4 h hi (fun x2 x3 x4 h' hi' hl' => ih x2 x3 x4 h' hi' (by omega)))
  exact key _ x2 x3 x4 h hI (Nat.lt_succ_self _)
theorem GLp_X12_ask_42 (x0 : Nat) (x1 : Int) (x2 : Int) (x3 : Int) (x4 : Int) (h : Hp) (Q : Int → Hp → Prop) (hV : Lp_X12_ask_42 x0 x1 x2 x3 x4 h Q) : Go i_X12_ask 42 [(0, .inr (.inr x0)), (1, .inl x1), (2, .inl x2), (3, .inl x3), (4, .inl x4)] [] h (qI Q) := by
  refine hV (fun x2 x3 x4 h => Go i_X12_ask 42 [(0, .inr (.inr x0)), (1, .inl x1), (2, .inl x2), (3, .inl x3), (4, .inl x4)] [] h (qI Q)) (fun x2 x3 x4 h hV => ?_)
  unfold BLp_X12_ask_42 at hV
  have hP42 : ∀ (x2 : Int) (x3 : Int) (x4 : Int) (h : Hp), Go i_X12_ask 42 [(0, .inr (.inr x0)), (1, .inl x1), (2, .inl x2), (3, .inl x3), (4, .inl x4)] [] h (qI Q) → Go i_X12_ask 42 [(0, .inr (.inr x0)), (1, .inl x1), (2, .inl x2), (3, .inl x3), (4, .inl x4)] [] h (qI Q) := fun _ _ _ h z => z
  refine s_iload d_X12_ask_42 (ma 4 rfl) ?_
  refine s_aload_n d_X12_ask_44 rfl (ma 0 rfl) ?_
  obtain ⟨o, hV⟩ := hV
  refine f_RX12_140g rfl d_X12_ask_45 o ?_
  refine s_icmp_ge (tgt := 196) d_X12_ask_48 (by decide) (fun c => ?_) (fun c => ?_)
  · have hV := hV.1 c
    refine s_iload_n d_X12_ask_196 rfl (ma 3 rfl) ?_
    exact s_iret d_X12_ask_197 rfl rfl ⟨_, rfl, hV⟩
  · have hV := hV.2 c
    refine s_iconst d_X12_ask_51 (okn rfl) ?_
    refine s_istore (lv' := [(5, .inl 0), (0, .inr (.inr x0)), (1, .inl x1), (2, .inl x2), (3, .inl x3), (4, .inl x4)]) d_X12_ask_52 (Nat.le_of_ble_eq_true rfl) rfl ?_
    refine s_pick (lv' := [(0, .inr (.inr x0)), (1, .inl x1), (2, .inl x2), (3, .inl x3), (4, .inl x4), (5, .inl 0)]) [1, 2, 3, 4, 5, 0] rfl ?_
    exact GLp_X12_ask_54 _ _ _ _ _ _ _ _ (by intros; apply hP42; assumption) hV
def BLp_X12_ask_9 (x0 : Nat) (x1 : Int) (P9 : Int → Int → Hp → Prop) (x2 : Int) (x3 : Int) (h : Hp) (Q : Int → Hp → Prop) : Prop :=
  (6 ≤ x3 → (Lp_X12_ask_42 x0 x1 x2 (-1) 0 h Q)) ∧ (¬ 6 ≤ x3 → (C_X12_has x1 x3 h (fun r2 h1 => ((r2 = 0 → (((-2147483648 : Int) ≤ x2 + 0 ∧ x2 + 0 ≤ (2147483647 : Int)) ∧ (∀ x2_3 : Int, x2_3 = x2 + 0 → (((-2147483648 : Int) ≤ x3 + 1 ∧ x3 + 1 ≤ (2147483647 : Int)) ∧ (P9 x2_3 (x3 + 1) h1))))) ∧ (¬ r2 = 0 → (((-2147483648 : Int) ≤ x2 + 1 ∧ x2 + 1 ≤ (2147483647 : Int)) ∧ (∀ x2_4 : Int, x2_4 = x2 + 1 → (((-2147483648 : Int) ≤ x3 + 1 ∧ x3 + 1 ≤ (2147483647 : Int)) ∧ (P9 x2_4 (x3 + 1) h1)))))))))
def Lp_X12_ask_9 (x0 : Nat) (x1 : Int) (x2 : Int) (x3 : Int) (h : Hp) (Q : Int → Hp → Prop) : Prop := ∀ P9 : Int → Int → Hp → Prop, (∀ (x2 : Int) (x3 : Int) (h : Hp), BLp_X12_ask_9 x0 x1 P9 x2 x3 h Q → P9 x2 x3 h) → P9 x2 x3 h
theorem Lp_X12_ask_9_ind {x0 : Nat} {x1 : Int} {Q : Int → Hp → Prop} (I : Int → Int → Hp → Prop) (μ : Int → Int → Hp → Nat) (hs : ∀ (P9 : Int → Int → Hp → Prop) (x2 : Int) (x3 : Int) (h : Hp), I x2 x3 h → (∀ (x2' : Int) (x3' : Int) (h' : Hp), I x2' x3' h' → μ x2' x3' h' < μ x2 x3 h → P9 x2' x3' h') → BLp_X12_ask_9 x0 x1 P9 x2 x3 h Q) : ∀ (x2 : Int) (x3 : Int) (h : Hp), I x2 x3 h → Lp_X12_ask_9 x0 x1 x2 x3 h Q := by
  intro x2 x3 h hI P9 hP
  have key : ∀ (n : Nat) (x2 : Int) (x3 : Int) (h : Hp), I x2 x3 h → μ x2 x3 h < n → P9 x2 x3 h := by
    intro n
    induction n with
    | zero => intro x2 x3 h _ hl; exact absurd hl (Nat.not_lt_zero _)
    | succ n ih => intro x2 x3 h hi hl; exact hP x2 x3 h (hs P9 x2 x3 h hi (fun x2 x3 h' hi' hl' => ih x2 x3 h' hi' (by omega)))
  exact key _ x2 x3 h hI (Nat.lt_succ_self _)
theorem GLp_X12_ask_9 (x0 : Nat) (x1 : Int) (x2 : Int) (x3 : Int) (h : Hp) (Q : Int → Hp → Prop) (hV : Lp_X12_ask_9 x0 x1 x2 x3 h Q) : Go i_X12_ask 9 [(0, .inr (.inr x0)), (1, .inl x1), (2, .inl x2), (3, .inl x3)] [] h (qI Q) := by
  refine hV (fun x2 x3 h => Go i_X12_ask 9 [(0, .inr (.inr x0)), (1, .inl x1), (2, .inl x2), (3, .inl x3)] [] h (qI Q)) (fun x2 x3 h hV => ?_)
  unfold BLp_X12_ask_9 at hV
  have hP9 : ∀ (x2 : Int) (x3 : Int) (h : Hp), Go i_X12_ask 9 [(0, .inr (.inr x0)), (1, .inl x1), (2, .inl x2), (3, .inl x3)] [] h (qI Q) → Go i_X12_ask 9 [(0, .inr (.inr x0)), (1, .inl x1), (2, .inl x2), (3, .inl x3)] [] h (qI Q) := fun _ _ h z => z
  refine s_iload_n d_X12_ask_9 rfl (ma 3 rfl) ?_
  refine s_bipush d_X12_ask_10 (by decide) (okn rfl) ?_
  refine s_icmp_ge (tgt := 37) d_X12_ask_12 (by decide) (fun c => ?_) (fun c => ?_)
  · have hV := hV.1 c
    refine s_iconst d_X12_ask_37 (okn rfl) ?_
    refine s_istore_n (lv' := [(3, .inl (-1)), (0, .inr (.inr x0)), (1, .inl x1), (2, .inl x2)]) d_X12_ask_38 rfl (Nat.le_of_ble_eq_true rfl) rfl ?_
    refine s_iconst d_X12_ask_39 (okn rfl) ?_
    refine s_istore (lv' := [(4, .inl 0), (3, .inl (-1)), (0, .inr (.inr x0)), (1, .inl x1), (2, .inl x2)]) d_X12_ask_40 (Nat.le_of_ble_eq_true rfl) rfl ?_
    refine s_pick (lv' := [(0, .inr (.inr x0)), (1, .inl x1), (2, .inl x2), (3, .inl (-1)), (4, .inl 0)]) [2, 3, 4, 1, 0] rfl ?_
    exact GLp_X12_ask_42 _ _ _ _ _ _ _ hV
  · have hV := hV.2 c
    refine s_iload_n d_X12_ask_15 rfl (ma 2 rfl) ?_
    refine s_iload_n d_X12_ask_16 rfl (ma 1 rfl) ?_
    refine s_iload_n d_X12_ask_17 rfl (ma 3 rfl) ?_
    refine v_RX12_152 rfl (Nat.le_of_ble_eq_true rfl) d_X12_ask_18 (Nat.le_of_ble_eq_true rfl) hV (fun r2 h1 hV => ?_)
    refine s_if_eq (tgt := 28) d_X12_ask_21 (by decide) (fun c => ?_) (fun c => ?_)
    · have hV := hV.1 c
      refine s_iconst d_X12_ask_28 (okn rfl) ?_
      obtain ⟨o, hV⟩ := hV
      refine s_iadd d_X12_ask_29 o ?_
      refine s_nmI (fun x2_3 ex2_3 => ?_)
      have hV := hV x2_3 ex2_3
      refine s_istore_n (lv' := [(2, .inl x2_3), (0, .inr (.inr x0)), (1, .inl x1), (3, .inl x3)]) d_X12_ask_30 rfl (Nat.le_of_ble_eq_true rfl) rfl ?_
      obtain ⟨o, hV⟩ := hV
      refine s_iinc (lv' := [(3, .inl (x3 + 1)), (2, .inl x2_3), (0, .inr (.inr x0)), (1, .inl x1)]) d_X12_ask_31 (ma 3 rfl) o (Nat.le_of_ble_eq_true rfl) rfl ?_
      refine s_goto (tgt := 9) d_X12_ask_34 (by decide) ?_
      refine s_pick (lv' := [(0, .inr (.inr x0)), (1, .inl x1), (2, .inl x2_3), (3, .inl (x3 + 1))]) [2, 3, 1, 0] rfl ?_
      exact hP9 _ _ _ hV
    · have hV := hV.2 c
      refine s_iconst d_X12_ask_24 (okn rfl) ?_
      refine s_goto (tgt := 29) d_X12_ask_25 (by decide) ?_
      obtain ⟨o, hV⟩ := hV
      refine s_iadd d_X12_ask_29 o ?_
      refine s_nmI (fun x2_4 ex2_4 => ?_)
      have hV := hV x2_4 ex2_4
      refine s_istore_n (lv' := [(2, .inl x2_4), (0, .inr (.inr x0)), (1, .inl x1), (3, .inl x3)]) d_X12_ask_30 rfl (Nat.le_of_ble_eq_true rfl) rfl ?_
      obtain ⟨o, hV⟩ := hV
      refine s_iinc (lv' := [(3, .inl (x3 + 1)), (2, .inl x2_4), (0, .inr (.inr x0)), (1, .inl x1)]) d_X12_ask_31 (ma 3 rfl) o (Nat.le_of_ble_eq_true rfl) rfl ?_
      refine s_goto (tgt := 9) d_X12_ask_34 (by decide) ?_
      refine s_pick (lv' := [(0, .inr (.inr x0)), (1, .inl x1), (2, .inl x2_4), (3, .inl (x3 + 1))]) [2, 3, 1, 0] rfl ?_
      exact hP9 _ _ _ hV
def V_X12_ask (x0 : Nat) (h : Hp) (Q : Int → Hp → Prop) : Prop :=
  hK h x0 = 11 ∧ C_X12_couldBe x0  h (fun r2 h1 => (Lp_X12_ask_9 x0 r2 0 0 h1 Q))
theorem G_X12_ask {x0 : Nat} (h : Hp) (Q : Int → Hp → Prop) (hV : V_X12_ask x0 h Q) : C_X12_ask x0 h Q := by
  unfold V_X12_ask at hV
  show Go i_X12_ask 0 [(0, .inr (.inr x0))] [] h (qI Q)
  refine s_aload_n d_X12_ask_0 rfl (ma 0 rfl) ?_
  obtain ⟨o, hV⟩ := hV
  refine v_RX12_273 rfl (Nat.le_of_ble_eq_true rfl) d_X12_ask_1 o (Nat.le_of_ble_eq_true rfl) hV (fun r2 h1 hV => ?_)
  refine s_istore_n (lv' := [(1, .inl r2), (0, .inr (.inr x0))]) d_X12_ask_4 rfl (Nat.le_of_ble_eq_true rfl) rfl ?_
  refine s_iconst d_X12_ask_5 (okn rfl) ?_
  refine s_istore_n (lv' := [(2, .inl 0), (1, .inl r2), (0, .inr (.inr x0))]) d_X12_ask_6 rfl (Nat.le_of_ble_eq_true rfl) rfl ?_
  refine s_iconst d_X12_ask_7 (okn rfl) ?_
  refine s_istore_n (lv' := [(3, .inl 0), (2, .inl 0), (1, .inl r2), (0, .inr (.inr x0))]) d_X12_ask_8 rfl (Nat.le_of_ble_eq_true rfl) rfl ?_
  refine s_pick (lv' := [(0, .inr (.inr x0)), (1, .inl r2), (2, .inl 0), (3, .inl 0)]) [3, 2, 1, 0] rfl ?_
  exact GLp_X12_ask_9 _ _ _ _ _ _ hV

theorem d_X12_write_0 : decode i_X12_write.2.1 0 = .ok (.iload_n 1, 1) := by decide +kernel
theorem d_X12_write_1 : decode i_X12_write.2.1 1 = .ok (.iconst 0, 1) := by decide +kernel
theorem d_X12_write_2 : decode i_X12_write.2.1 2 = .ok (.bipush 59, 2) := by decide +kernel
theorem d_X12_write_4 : decode i_X12_write.2.1 4 = .ok (.invokestatic 90, 3) := by decide +kernel
theorem d_X12_write_7 : decode i_X12_write.2.1 7 = .ok (.ifCond .eq 13, 3) := by decide +kernel
theorem d_X12_write_10 : decode i_X12_write.2.1 10 = .ok (.iload_n 2, 1) := by decide +kernel
theorem d_X12_write_11 : decode i_X12_write.2.1 11 = .ok (.iconst (-1), 1) := by decide +kernel
theorem d_X12_write_12 : decode i_X12_write.2.1 12 = .ok (.bipush 9, 2) := by decide +kernel
theorem d_X12_write_14 : decode i_X12_write.2.1 14 = .ok (.invokestatic 90, 3) := by decide +kernel
theorem d_X12_write_17 : decode i_X12_write.2.1 17 = .ok (.ifCond .ne 6, 3) := by decide +kernel
theorem d_X12_write_20 : decode i_X12_write.2.1 20 = .ok (.ldc 94, 2) := by decide +kernel
theorem d_X12_write_22 : decode i_X12_write.2.1 22 = .ok (.ireturn, 1) := by decide +kernel
theorem d_X12_write_23 : decode i_X12_write.2.1 23 = .ok (.aload_n 0, 1) := by decide +kernel
theorem d_X12_write_24 : decode i_X12_write.2.1 24 = .ok (.getfield 149, 3) := by decide +kernel
theorem d_X12_write_27 : decode i_X12_write.2.1 27 = .ok (.bipush 20, 2) := by decide +kernel
theorem d_X12_write_29 : decode i_X12_write.2.1 29 = .ok (.if_icmp .ne 6, 3) := by decide +kernel
theorem d_X12_write_32 : decode i_X12_write.2.1 32 = .ok (.ldc 98, 2) := by decide +kernel
theorem d_X12_write_34 : decode i_X12_write.2.1 34 = .ok (.ireturn, 1) := by decide +kernel
theorem d_X12_write_35 : decode i_X12_write.2.1 35 = .ok (.aload_n 0, 1) := by decide +kernel
theorem d_X12_write_36 : decode i_X12_write.2.1 36 = .ok (.getfield 57, 3) := by decide +kernel
theorem d_X12_write_39 : decode i_X12_write.2.1 39 = .ok (.aload_n 0, 1) := by decide +kernel
theorem d_X12_write_40 : decode i_X12_write.2.1 40 = .ok (.getfield 149, 3) := by decide +kernel
theorem d_X12_write_43 : decode i_X12_write.2.1 43 = .ok (.iload_n 1, 1) := by decide +kernel
theorem d_X12_write_44 : decode i_X12_write.2.1 44 = .ok (.iastore, 1) := by decide +kernel
theorem d_X12_write_45 : decode i_X12_write.2.1 45 = .ok (.aload_n 0, 1) := by decide +kernel
theorem d_X12_write_46 : decode i_X12_write.2.1 46 = .ok (.getfield 60, 3) := by decide +kernel
theorem d_X12_write_49 : decode i_X12_write.2.1 49 = .ok (.aload_n 0, 1) := by decide +kernel
theorem d_X12_write_50 : decode i_X12_write.2.1 50 = .ok (.getfield 149, 3) := by decide +kernel
theorem d_X12_write_53 : decode i_X12_write.2.1 53 = .ok (.iload_n 2, 1) := by decide +kernel
theorem d_X12_write_54 : decode i_X12_write.2.1 54 = .ok (.iastore, 1) := by decide +kernel
theorem d_X12_write_55 : decode i_X12_write.2.1 55 = .ok (.aload_n 0, 1) := by decide +kernel
theorem d_X12_write_56 : decode i_X12_write.2.1 56 = .ok (.dup, 1) := by decide +kernel
theorem d_X12_write_57 : decode i_X12_write.2.1 57 = .ok (.getfield 149, 3) := by decide +kernel
theorem d_X12_write_60 : decode i_X12_write.2.1 60 = .ok (.iconst 1, 1) := by decide +kernel
theorem d_X12_write_61 : decode i_X12_write.2.1 61 = .ok (.iadd, 1) := by decide +kernel
theorem d_X12_write_62 : decode i_X12_write.2.1 62 = .ok (.putfield 149, 3) := by decide +kernel
theorem d_X12_write_65 : decode i_X12_write.2.1 65 = .ok (.aload_n 0, 1) := by decide +kernel
theorem d_X12_write_66 : decode i_X12_write.2.1 66 = .ok (.getfield 149, 3) := by decide +kernel
theorem d_X12_write_69 : decode i_X12_write.2.1 69 = .ok (.ireturn, 1) := by decide +kernel
def V_X12_write (x0 : Nat) (x1 : Int) (x2 : Int) (h : Hp) (Q : Int → Hp → Prop) : Prop :=
  C_X12_is x1 0 59 h (fun r2 h1 => ((r2 = 0 → (Q (-1000000002) h1)) ∧ (¬ r2 = 0 → (C_X12_is x2 (-1) 9 h1 (fun r4 h3 => ((r4 ≠ 0 → (hK h3 x0 = 11 ∧ ((hI h3 x0 25 ≠ 20 → (hK h3 x0 = 11 ∧ (hK h3 x0 = 11 ∧ ((hK h3 (hR h3 x0 26) = 12 ∧ (0 : Int) ≤ hI h3 x0 25 ∧ hI h3 x0 25 < hL h3 (hR h3 x0 26)) ∧ ∀ h5 : Hp, h5 = wI h3 (hR h3 x0 26) (hI h3 x0 25) x1 → (hK h5 x0 = 11 ∧ (hK h5 x0 = 11 ∧ ((hK h5 (hR h5 x0 27) = 12 ∧ (0 : Int) ≤ hI h5 x0 25 ∧ hI h5 x0 25 < hL h5 (hR h5 x0 27)) ∧ ∀ h6 : Hp, h6 = wI h5 (hR h5 x0 27) (hI h5 x0 25) x2 → (hK h6 x0 = 11 ∧ (((-2147483648 : Int) ≤ (hI h6 x0 25) + 1 ∧ (hI h6 x0 25) + 1 ≤ (2147483647 : Int)) ∧ (hK h6 x0 = 11 ∧ ∀ h7 : Hp, h7 = wI h6 x0 25 ((hI h6 x0 25) + 1) → (hK h7 x0 = 11 ∧ (Q (hI h7 x0 25) h7)))))))))))) ∧ (hI h3 x0 25 = 20 → (Q (-1000000004) h3))))) ∧ (r4 = 0 → (Q (-1000000002) h3))))))))
theorem G_X12_write {x0 : Nat} {x1 : Int} {x2 : Int} (h : Hp) (Q : Int → Hp → Prop) (hV : V_X12_write x0 x1 x2 h Q) : C_X12_write x0 x1 x2 h Q := by
  unfold V_X12_write at hV
  show Go i_X12_write 0 [(0, .inr (.inr x0)), (1, .inl x1), (2, .inl x2)] [] h (qI Q)
  refine s_iload_n d_X12_write_0 rfl (ma 1 rfl) ?_
  refine s_iconst d_X12_write_1 (okn rfl) ?_
  refine s_bipush d_X12_write_2 (by decide) (okn rfl) ?_
  refine v_RX12_90 rfl (Nat.le_of_ble_eq_true rfl) d_X12_write_4 (Nat.le_of_ble_eq_true rfl) hV (fun r2 h1 hV => ?_)
  refine s_if_eq (tgt := 20) d_X12_write_7 (by decide) (fun c => ?_) (fun c => ?_)
  · have hV := hV.1 c
    refine s_ldc (n := (-1000000002)) d_X12_write_20 k_RX12_94 (by decide) (okn rfl) ?_
    exact s_iret d_X12_write_22 rfl rfl ⟨_, rfl, hV⟩
  · have hV := hV.2 c
    refine s_iload_n d_X12_write_10 rfl (ma 2 rfl) ?_
    refine s_iconst d_X12_write_11 (okn rfl) ?_
    refine s_bipush d_X12_write_12 (by decide) (okn rfl) ?_
    refine v_RX12_90 rfl (Nat.le_of_ble_eq_true rfl) d_X12_write_14 (Nat.le_of_ble_eq_true rfl) hV (fun r4 h3 hV => ?_)
    refine s_if_ne (tgt := 23) d_X12_write_17 (by decide) (fun c => ?_) (fun c => ?_)
    · have hV := hV.1 c
      refine s_aload_n d_X12_write_23 rfl (ma 0 rfl) ?_
      obtain ⟨o, hV⟩ := hV
      refine f_RX12_149g rfl d_X12_write_24 o ?_
      refine s_bipush d_X12_write_27 (by decide) (okn rfl) ?_
      refine s_icmp_ne (tgt := 35) d_X12_write_29 (by decide) (fun c => ?_) (fun c => ?_)
      · have hV := hV.1 c
        refine s_aload_n d_X12_write_35 rfl (ma 0 rfl) ?_
        obtain ⟨o, hV⟩ := hV
        refine f_RX12_57g rfl d_X12_write_36 o ?_
        refine s_aload_n d_X12_write_39 rfl (ma 0 rfl) ?_
        obtain ⟨o, hV⟩ := hV
        refine f_RX12_149g rfl d_X12_write_40 o ?_
        refine s_iload_n d_X12_write_43 rfl (ma 1 rfl) ?_
        obtain ⟨o, hV⟩ := hV
        refine s_iast d_X12_write_44 o.1 o.2.1 o.2.2 ?_
        refine s_nmH (fun h5 eh5 => ?_)
        have hV := hV h5 eh5
        refine s_aload_n d_X12_write_45 rfl (ma 0 rfl) ?_
        obtain ⟨o, hV⟩ := hV
        refine f_RX12_60g rfl d_X12_write_46 o ?_
        refine s_aload_n d_X12_write_49 rfl (ma 0 rfl) ?_
        obtain ⟨o, hV⟩ := hV
        refine f_RX12_149g rfl d_X12_write_50 o ?_
        refine s_iload_n d_X12_write_53 rfl (ma 2 rfl) ?_
        obtain ⟨o, hV⟩ := hV
        refine s_iast d_X12_write_54 o.1 o.2.1 o.2.2 ?_
        refine s_nmH (fun h6 eh6 => ?_)
        have hV := hV h6 eh6
        refine s_aload_n d_X12_write_55 rfl (ma 0 rfl) ?_
        refine s_dup d_X12_write_56 rfl ?_
        obtain ⟨o, hV⟩ := hV
        refine f_RX12_149g rfl d_X12_write_57 o ?_
        refine s_iconst d_X12_write_60 (okn rfl) ?_
        obtain ⟨o, hV⟩ := hV
        refine s_iadd d_X12_write_61 o ?_
        obtain ⟨o, hV⟩ := hV
        refine f_RX12_149p rfl d_X12_write_62 o (fun h7 eh7 => ?_)
        have hV := hV h7 eh7
        refine s_aload_n d_X12_write_65 rfl (ma 0 rfl) ?_
        obtain ⟨o, hV⟩ := hV
        refine f_RX12_149g rfl d_X12_write_66 o ?_
        exact s_iret d_X12_write_69 rfl rfl ⟨_, rfl, hV⟩
      · have hV := hV.2 c
        refine s_ldc (n := (-1000000004)) d_X12_write_32 k_RX12_98 (by decide) (okn rfl) ?_
        exact s_iret d_X12_write_34 rfl rfl ⟨_, rfl, hV⟩
    · have hV := hV.2 c
      refine s_ldc (n := (-1000000002)) d_X12_write_20 k_RX12_94 (by decide) (okn rfl) ?_
      exact s_iret d_X12_write_22 rfl rfl ⟨_, rfl, hV⟩

theorem d_X12_judge_0 : decode i_X12_judge.2.1 0 = .ok (.iconst 0, 1) := by decide +kernel
theorem d_X12_judge_1 : decode i_X12_judge.2.1 1 = .ok (.istore_n 1, 1) := by decide +kernel
theorem d_X12_judge_2 : decode i_X12_judge.2.1 2 = .ok (.iload_n 1, 1) := by decide +kernel
theorem d_X12_judge_3 : decode i_X12_judge.2.1 3 = .ok (.aload_n 0, 1) := by decide +kernel
theorem d_X12_judge_4 : decode i_X12_judge.2.1 4 = .ok (.getfield 149, 3) := by decide +kernel
theorem d_X12_judge_7 : decode i_X12_judge.2.1 7 = .ok (.if_icmp .ge 30, 3) := by decide +kernel
theorem d_X12_judge_10 : decode i_X12_judge.2.1 10 = .ok (.aload_n 0, 1) := by decide +kernel
theorem d_X12_judge_11 : decode i_X12_judge.2.1 11 = .ok (.aload_n 0, 1) := by decide +kernel
theorem d_X12_judge_12 : decode i_X12_judge.2.1 12 = .ok (.getfield 57, 3) := by decide +kernel
theorem d_X12_judge_15 : decode i_X12_judge.2.1 15 = .ok (.iload_n 1, 1) := by decide +kernel
theorem d_X12_judge_16 : decode i_X12_judge.2.1 16 = .ok (.iaload, 1) := by decide +kernel
theorem d_X12_judge_17 : decode i_X12_judge.2.1 17 = .ok (.invokevirtual 175, 3) := by decide +kernel
theorem d_X12_judge_20 : decode i_X12_judge.2.1 20 = .ok (.aload_n 0, 1) := by decide +kernel
theorem d_X12_judge_21 : decode i_X12_judge.2.1 21 = .ok (.getfield 60, 3) := by decide +kernel
theorem d_X12_judge_24 : decode i_X12_judge.2.1 24 = .ok (.iload_n 1, 1) := by decide +kernel
theorem d_X12_judge_25 : decode i_X12_judge.2.1 25 = .ok (.iaload, 1) := by decide +kernel
theorem d_X12_judge_26 : decode i_X12_judge.2.1 26 = .ok (.if_icmp .eq 5, 3) := by decide +kernel
theorem d_X12_judge_29 : decode i_X12_judge.2.1 29 = .ok (.iload_n 1, 1) := by decide +kernel
theorem d_X12_judge_30 : decode i_X12_judge.2.1 30 = .ok (.ireturn, 1) := by decide +kernel
theorem d_X12_judge_31 : decode i_X12_judge.2.1 31 = .ok (.iinc 1 1, 3) := by decide +kernel
theorem d_X12_judge_34 : decode i_X12_judge.2.1 34 = .ok (.goto (-32), 3) := by decide +kernel
theorem d_X12_judge_37 : decode i_X12_judge.2.1 37 = .ok (.iconst (-1), 1) := by decide +kernel
theorem d_X12_judge_38 : decode i_X12_judge.2.1 38 = .ok (.ireturn, 1) := by decide +kernel
def BLp_X12_judge_2 (x0 : Nat) (P2 : Int → Hp → Prop) (x1 : Int) (h : Hp) (Q : Int → Hp → Prop) : Prop :=
  hK h x0 = 11 ∧ ((hI h x0 25 ≤ x1 → (Q (-1) h)) ∧ (¬ hI h x0 25 ≤ x1 → (hK h x0 = 11 ∧ ((hK h (hR h x0 26) = 12 ∧ (0 : Int) ≤ x1 ∧ x1 < hL h (hR h x0 26)) ∧ (hK h x0 = 11 ∧ C_X12_figureAt x0 (hI h (hR h x0 26) x1) h (fun r2 h1 => (hK h1 x0 = 11 ∧ ((hK h1 (hR h1 x0 27) = 12 ∧ (0 : Int) ≤ x1 ∧ x1 < hL h1 (hR h1 x0 27)) ∧ ((r2 = hI h1 (hR h1 x0 27) x1 → (((-2147483648 : Int) ≤ x1 + 1 ∧ x1 + 1 ≤ (2147483647 : Int)) ∧ (P2 (x1 + 1) h1))) ∧ (¬ r2 = hI h1 (hR h1 x0 27) x1 → (Q x1 h1)))))))))))
def Lp_X12_judge_2 (x0 : Nat) (x1 : Int) (h : Hp) (Q : Int → Hp → Prop) : Prop := ∀ P2 : Int → Hp → Prop, (∀ (x1 : Int) (h : Hp), BLp_X12_judge_2 x0 P2 x1 h Q → P2 x1 h) → P2 x1 h
theorem Lp_X12_judge_2_ind {x0 : Nat} {Q : Int → Hp → Prop} (I : Int → Hp → Prop) (μ : Int → Hp → Nat) (hs : ∀ (P2 : Int → Hp → Prop) (x1 : Int) (h : Hp), I x1 h → (∀ (x1' : Int) (h' : Hp), I x1' h' → μ x1' h' < μ x1 h → P2 x1' h') → BLp_X12_judge_2 x0 P2 x1 h Q) : ∀ (x1 : Int) (h : Hp), I x1 h → Lp_X12_judge_2 x0 x1 h Q := by
  intro x1 h hI P2 hP
  have key : ∀ (n : Nat) (x1 : Int) (h : Hp), I x1 h → μ x1 h < n → P2 x1 h := by
    intro n
    induction n with
    | zero => intro x1 h _ hl; exact absurd hl (Nat.not_lt_zero _)
    | succ n ih => intro x1 h hi hl; exact hP x1 h (hs P2 x1 h hi (fun x1 h' hi' hl' => ih x1 h' hi' (by omega)))
  exact key _ x1 h hI (Nat.lt_succ_self _)
theorem GLp_X12_judge_2 (x0 : Nat) (x1 : Int) (h : Hp) (Q : Int → Hp → Prop) (hV : Lp_X12_judge_2 x0 x1 h Q) : Go i_X12_judge 2 [(0, .inr (.inr x0)), (1, .inl x1)] [] h (qI Q) := by
  refine hV (fun x1 h => Go i_X12_judge 2 [(0, .inr (.inr x0)), (1, .inl x1)] [] h (qI Q)) (fun x1 h hV => ?_)
  unfold BLp_X12_judge_2 at hV
  have hP2 : ∀ (x1 : Int) (h : Hp), Go i_X12_judge 2 [(0, .inr (.inr x0)), (1, .inl x1)] [] h (qI Q) → Go i_X12_judge 2 [(0, .inr (.inr x0)), (1, .inl x1)] [] h (qI Q) := fun _ h z => z
  refine s_iload_n d_X12_judge_2 rfl (ma 1 rfl) ?_
  refine s_aload_n d_X12_judge_3 rfl (ma 0 rfl) ?_
  obtain ⟨o, hV⟩ := hV
  refine f_RX12_149g rfl d_X12_judge_4 o ?_
  refine s_icmp_ge (tgt := 37) d_X12_judge_7 (by decide) (fun c => ?_) (fun c => ?_)
  · have hV := hV.1 c
    refine s_iconst d_X12_judge_37 (okn rfl) ?_
    exact s_iret d_X12_judge_38 rfl rfl ⟨_, rfl, hV⟩
  · have hV := hV.2 c
    refine s_aload_n d_X12_judge_10 rfl (ma 0 rfl) ?_
    refine s_aload_n d_X12_judge_11 rfl (ma 0 rfl) ?_
    obtain ⟨o, hV⟩ := hV
    refine f_RX12_57g rfl d_X12_judge_12 o ?_
    refine s_iload_n d_X12_judge_15 rfl (ma 1 rfl) ?_
    obtain ⟨o, hV⟩ := hV
    refine s_iald d_X12_judge_16 o.1 o.2.1 o.2.2 ?_
    obtain ⟨o, hV⟩ := hV
    refine v_RX12_175 rfl (Nat.le_of_ble_eq_true rfl) d_X12_judge_17 o (Nat.le_of_ble_eq_true rfl) hV (fun r2 h1 hV => ?_)
    refine s_aload_n d_X12_judge_20 rfl (ma 0 rfl) ?_
    obtain ⟨o, hV⟩ := hV
    refine f_RX12_60g rfl d_X12_judge_21 o ?_
    refine s_iload_n d_X12_judge_24 rfl (ma 1 rfl) ?_
    obtain ⟨o, hV⟩ := hV
    refine s_iald d_X12_judge_25 o.1 o.2.1 o.2.2 ?_
    refine s_icmp_eq (tgt := 31) d_X12_judge_26 (by decide) (fun c => ?_) (fun c => ?_)
    · have hV := hV.1 c
      obtain ⟨o, hV⟩ := hV
      refine s_iinc (lv' := [(1, .inl (x1 + 1)), (0, .inr (.inr x0))]) d_X12_judge_31 (ma 1 rfl) o (Nat.le_of_ble_eq_true rfl) rfl ?_
      refine s_goto (tgt := 2) d_X12_judge_34 (by decide) ?_
      refine s_pick (lv' := [(0, .inr (.inr x0)), (1, .inl (x1 + 1))]) [1, 0] rfl ?_
      exact hP2 _ _ hV
    · have hV := hV.2 c
      refine s_iload_n d_X12_judge_29 rfl (ma 1 rfl) ?_
      exact s_iret d_X12_judge_30 rfl rfl ⟨_, rfl, hV⟩
def V_X12_judge (x0 : Nat) (h : Hp) (Q : Int → Hp → Prop) : Prop :=
  Lp_X12_judge_2 x0 0 h Q
theorem G_X12_judge {x0 : Nat} (h : Hp) (Q : Int → Hp → Prop) (hV : V_X12_judge x0 h Q) : C_X12_judge x0 h Q := by
  unfold V_X12_judge at hV
  show Go i_X12_judge 0 [(0, .inr (.inr x0))] [] h (qI Q)
  refine s_iconst d_X12_judge_0 (okn rfl) ?_
  refine s_istore_n (lv' := [(1, .inl 0), (0, .inr (.inr x0))]) d_X12_judge_1 rfl (Nat.le_of_ble_eq_true rfl) rfl ?_
  refine s_pick (lv' := [(0, .inr (.inr x0)), (1, .inl 0)]) [1, 0] rfl ?_
  exact GLp_X12_judge_2 _ _ _ _ hV

theorem d_X12_tear_0 : decode i_X12_tear.2.1 0 = .ok (.aload_n 0, 1) := by decide +kernel
theorem d_X12_tear_1 : decode i_X12_tear.2.1 1 = .ok (.getfield 146, 3) := by decide +kernel
theorem d_X12_tear_4 : decode i_X12_tear.2.1 4 = .ok (.aload_n 0, 1) := by decide +kernel
theorem d_X12_tear_5 : decode i_X12_tear.2.1 5 = .ok (.getfield 149, 3) := by decide +kernel
theorem d_X12_tear_8 : decode i_X12_tear.2.1 8 = .ok (.iadd, 1) := by decide +kernel
theorem d_X12_tear_9 : decode i_X12_tear.2.1 9 = .ok (.istore_n 1, 1) := by decide +kernel
theorem d_X12_tear_10 : decode i_X12_tear.2.1 10 = .ok (.aload_n 0, 1) := by decide +kernel
theorem d_X12_tear_11 : decode i_X12_tear.2.1 11 = .ok (.iconst 0, 1) := by decide +kernel
theorem d_X12_tear_12 : decode i_X12_tear.2.1 12 = .ok (.putfield 146, 3) := by decide +kernel
theorem d_X12_tear_15 : decode i_X12_tear.2.1 15 = .ok (.aload_n 0, 1) := by decide +kernel
theorem d_X12_tear_16 : decode i_X12_tear.2.1 16 = .ok (.iconst 0, 1) := by decide +kernel
theorem d_X12_tear_17 : decode i_X12_tear.2.1 17 = .ok (.putfield 149, 3) := by decide +kernel
theorem d_X12_tear_20 : decode i_X12_tear.2.1 20 = .ok (.iload_n 1, 1) := by decide +kernel
theorem d_X12_tear_21 : decode i_X12_tear.2.1 21 = .ok (.ireturn, 1) := by decide +kernel
def V_X12_tear (x0 : Nat) (h : Hp) (Q : Int → Hp → Prop) : Prop :=
  hK h x0 = 11 ∧ (hK h x0 = 11 ∧ (((-2147483648 : Int) ≤ (hI h x0 21) + (hI h x0 25) ∧ (hI h x0 21) + (hI h x0 25) ≤ (2147483647 : Int)) ∧ (∀ x1_1 : Int, x1_1 = (hI h x0 21) + (hI h x0 25) → (hK h x0 = 11 ∧ ∀ h2 : Hp, h2 = wI h x0 21 0 → (hK h2 x0 = 11 ∧ ∀ h3 : Hp, h3 = wI h2 x0 25 0 → (Q x1_1 h3))))))
theorem G_X12_tear {x0 : Nat} (h : Hp) (Q : Int → Hp → Prop) (hV : V_X12_tear x0 h Q) : C_X12_tear x0 h Q := by
  unfold V_X12_tear at hV
  show Go i_X12_tear 0 [(0, .inr (.inr x0))] [] h (qI Q)
  refine s_aload_n d_X12_tear_0 rfl (ma 0 rfl) ?_
  obtain ⟨o, hV⟩ := hV
  refine f_RX12_146g rfl d_X12_tear_1 o ?_
  refine s_aload_n d_X12_tear_4 rfl (ma 0 rfl) ?_
  obtain ⟨o, hV⟩ := hV
  refine f_RX12_149g rfl d_X12_tear_5 o ?_
  obtain ⟨o, hV⟩ := hV
  refine s_iadd d_X12_tear_8 o ?_
  refine s_nmI (fun x1_1 ex1_1 => ?_)
  have hV := hV x1_1 ex1_1
  refine s_istore_n (lv' := [(1, .inl x1_1), (0, .inr (.inr x0))]) d_X12_tear_9 rfl (Nat.le_of_ble_eq_true rfl) rfl ?_
  refine s_aload_n d_X12_tear_10 rfl (ma 1 rfl) ?_
  refine s_iconst d_X12_tear_11 (okn rfl) ?_
  obtain ⟨o, hV⟩ := hV
  refine f_RX12_146p rfl d_X12_tear_12 o (fun h2 eh2 => ?_)
  have hV := hV h2 eh2
  refine s_aload_n d_X12_tear_15 rfl (ma 1 rfl) ?_
  refine s_iconst d_X12_tear_16 (okn rfl) ?_
  obtain ⟨o, hV⟩ := hV
  refine f_RX12_149p rfl d_X12_tear_17 o (fun h3 eh3 => ?_)
  have hV := hV h3 eh3
  refine s_iload_n d_X12_tear_20 rfl (ma 0 rfl) ?_
  exact s_iret d_X12_tear_21 rfl rfl ⟨_, rfl, hV⟩

theorem d_X12_seed_0 : decode i_X12_seed.2.1 0 = .ok (.iload_n 1, 1) := by decide +kernel
theorem d_X12_seed_1 : decode i_X12_seed.2.1 1 = .ok (.ifCond .ge 6, 3) := by decide +kernel
theorem d_X12_seed_4 : decode i_X12_seed.2.1 4 = .ok (.ldc 94, 2) := by decide +kernel
theorem d_X12_seed_6 : decode i_X12_seed.2.1 6 = .ok (.ireturn, 1) := by decide +kernel
theorem d_X12_seed_7 : decode i_X12_seed.2.1 7 = .ok (.aload_n 0, 1) := by decide +kernel
theorem d_X12_seed_8 : decode i_X12_seed.2.1 8 = .ok (.getfield 222, 3) := by decide +kernel
theorem d_X12_seed_11 : decode i_X12_seed.2.1 11 = .ok (.istore_n 2, 1) := by decide +kernel
theorem d_X12_seed_12 : decode i_X12_seed.2.1 12 = .ok (.aload_n 0, 1) := by decide +kernel
theorem d_X12_seed_13 : decode i_X12_seed.2.1 13 = .ok (.iload_n 1, 1) := by decide +kernel
theorem d_X12_seed_14 : decode i_X12_seed.2.1 14 = .ok (.putfield 222, 3) := by decide +kernel
theorem d_X12_seed_17 : decode i_X12_seed.2.1 17 = .ok (.iload_n 2, 1) := by decide +kernel
theorem d_X12_seed_18 : decode i_X12_seed.2.1 18 = .ok (.ireturn, 1) := by decide +kernel
def V_X12_seed (x0 : Nat) (x1 : Int) (h : Hp) (Q : Int → Hp → Prop) : Prop :=
  ((0 : Int) ≤ x1 → (hK h x0 = 11 ∧ (∀ x2_1 : Int, x2_1 = hI h x0 20 → (hK h x0 = 11 ∧ ∀ h2 : Hp, h2 = wI h x0 20 x1 → (Q x2_1 h2))))) ∧ (¬ (0 : Int) ≤ x1 → (Q (-1000000002) h))
theorem G_X12_seed {x0 : Nat} {x1 : Int} (h : Hp) (Q : Int → Hp → Prop) (hV : V_X12_seed x0 x1 h Q) : C_X12_seed x0 x1 h Q := by
  unfold V_X12_seed at hV
  show Go i_X12_seed 0 [(0, .inr (.inr x0)), (1, .inl x1)] [] h (qI Q)
  refine s_iload_n d_X12_seed_0 rfl (ma 1 rfl) ?_
  refine s_if_ge (tgt := 7) d_X12_seed_1 (by decide) (fun c => ?_) (fun c => ?_)
  · have hV := hV.1 c
    refine s_aload_n d_X12_seed_7 rfl (ma 0 rfl) ?_
    obtain ⟨o, hV⟩ := hV
    refine f_RX12_222g rfl d_X12_seed_8 o ?_
    refine s_nmI (fun x2_1 ex2_1 => ?_)
    have hV := hV x2_1 ex2_1
    refine s_istore_n (lv' := [(2, .inl x2_1), (0, .inr (.inr x0)), (1, .inl x1)]) d_X12_seed_11 rfl (Nat.le_of_ble_eq_true rfl) rfl ?_
    refine s_aload_n d_X12_seed_12 rfl (ma 1 rfl) ?_
    refine s_iload_n d_X12_seed_13 rfl (ma 2 rfl) ?_
    obtain ⟨o, hV⟩ := hV
    refine f_RX12_222p rfl d_X12_seed_14 o (fun h2 eh2 => ?_)
    have hV := hV h2 eh2
    refine s_iload_n d_X12_seed_17 rfl (ma 0 rfl) ?_
    exact s_iret d_X12_seed_18 rfl rfl ⟨_, rfl, hV⟩
  · have hV := hV.2 c
    refine s_ldc (n := (-1000000002)) d_X12_seed_4 k_RX12_94 (by decide) (okn rfl) ?_
    exact s_iret d_X12_seed_6 rfl rfl ⟨_, rfl, hV⟩

theorem d_X12_keep_0 : decode i_X12_keep.2.1 0 = .ok (.iload_n 1, 1) := by decide +kernel
theorem d_X12_keep_1 : decode i_X12_keep.2.1 1 = .ok (.iconst 0, 1) := by decide +kernel
theorem d_X12_keep_2 : decode i_X12_keep.2.1 2 = .ok (.iconst 1, 1) := by decide +kernel
theorem d_X12_keep_3 : decode i_X12_keep.2.1 3 = .ok (.invokestatic 90, 3) := by decide +kernel
theorem d_X12_keep_6 : decode i_X12_keep.2.1 6 = .ok (.ifCond .ne 6, 3) := by decide +kernel
theorem d_X12_keep_9 : decode i_X12_keep.2.1 9 = .ok (.ldc 181, 2) := by decide +kernel
theorem d_X12_keep_11 : decode i_X12_keep.2.1 11 = .ok (.ireturn, 1) := by decide +kernel
theorem d_X12_keep_12 : decode i_X12_keep.2.1 12 = .ok (.aload_n 0, 1) := by decide +kernel
theorem d_X12_keep_13 : decode i_X12_keep.2.1 13 = .ok (.getfield 32, 3) := by decide +kernel
theorem d_X12_keep_16 : decode i_X12_keep.2.1 16 = .ok (.iconst 0, 1) := by decide +kernel
theorem d_X12_keep_17 : decode i_X12_keep.2.1 17 = .ok (.aload_n 0, 1) := by decide +kernel
theorem d_X12_keep_18 : decode i_X12_keep.2.1 18 = .ok (.getfield 38, 3) := by decide +kernel
theorem d_X12_keep_21 : decode i_X12_keep.2.1 21 = .ok (.bipush 103, 2) := by decide +kernel
theorem d_X12_keep_23 : decode i_X12_keep.2.1 23 = .ok (.iload_n 1, 1) := by decide +kernel
theorem d_X12_keep_24 : decode i_X12_keep.2.1 24 = .ok (.imul, 1) := by decide +kernel
theorem d_X12_keep_25 : decode i_X12_keep.2.1 25 = .ok (.bipush 103, 2) := by decide +kernel
theorem d_X12_keep_27 : decode i_X12_keep.2.1 27 = .ok (.invokestatic 136, 3) := by decide +kernel
theorem d_X12_keep_30 : decode i_X12_keep.2.1 30 = .ok (.aload_n 0, 1) := by decide +kernel
theorem d_X12_keep_31 : decode i_X12_keep.2.1 31 = .ok (.getfield 41, 3) := by decide +kernel
theorem d_X12_keep_34 : decode i_X12_keep.2.1 34 = .ok (.iload_n 1, 1) := by decide +kernel
theorem d_X12_keep_35 : decode i_X12_keep.2.1 35 = .ok (.aload_n 0, 1) := by decide +kernel
theorem d_X12_keep_36 : decode i_X12_keep.2.1 36 = .ok (.getfield 222, 3) := by decide +kernel
theorem d_X12_keep_39 : decode i_X12_keep.2.1 39 = .ok (.iastore, 1) := by decide +kernel
theorem d_X12_keep_40 : decode i_X12_keep.2.1 40 = .ok (.aload_n 0, 1) := by decide +kernel
theorem d_X12_keep_41 : decode i_X12_keep.2.1 41 = .ok (.getfield 44, 3) := by decide +kernel
theorem d_X12_keep_44 : decode i_X12_keep.2.1 44 = .ok (.iload_n 1, 1) := by decide +kernel
theorem d_X12_keep_45 : decode i_X12_keep.2.1 45 = .ok (.iconst 1, 1) := by decide +kernel
theorem d_X12_keep_46 : decode i_X12_keep.2.1 46 = .ok (.bastore, 1) := by decide +kernel
theorem d_X12_keep_47 : decode i_X12_keep.2.1 47 = .ok (.aload_n 0, 1) := by decide +kernel
theorem d_X12_keep_48 : decode i_X12_keep.2.1 48 = .ok (.iconst 0, 1) := by decide +kernel
theorem d_X12_keep_49 : decode i_X12_keep.2.1 49 = .ok (.putfield 143, 3) := by decide +kernel
theorem d_X12_keep_52 : decode i_X12_keep.2.1 52 = .ok (.iconst 1, 1) := by decide +kernel
theorem d_X12_keep_53 : decode i_X12_keep.2.1 53 = .ok (.ireturn, 1) := by decide +kernel
def V_X12_keep (x0 : Nat) (x1 : Int) (h : Hp) (Q : Int → Hp → Prop) : Prop :=
  C_X12_is x1 0 1 h (fun r2 h1 => ((r2 ≠ 0 → (hK h1 x0 = 11 ∧ (hK h1 x0 = 11 ∧ (((-2147483648 : Int) ≤ 103 * x1 ∧ 103 * x1 ≤ (2147483647 : Int)) ∧ (C_X12_bring (hR h1 x0 14) 0 (hR h1 x0 17) (103 * x1) 103 h1 (fun h3 => (hK h3 x0 = 11 ∧ (hK h3 x0 = 11 ∧ ((hK h3 (hR h3 x0 18) = 12 ∧ (0 : Int) ≤ x1 ∧ x1 < hL h3 (hR h3 x0 18)) ∧ ∀ h4 : Hp, h4 = wI h3 (hR h3 x0 18) x1 (hI h3 x0 20) → (hK h4 x0 = 11 ∧ ((hK h4 (hR h4 x0 19) = 15 ∧ (0 : Int) ≤ x1 ∧ x1 < hL h4 (hR h4 x0 19) ∧ ((1 : Int) = 0 ∨ (1 : Int) = 1)) ∧ ∀ h5 : Hp, h5 = wI h4 (hR h4 x0 19) x1 1 → (hK h5 x0 = 11 ∧ ∀ h6 : Hp, h6 = wI h5 x0 16 0 → (Q 1 h6))))))))))))) ∧ (r2 = 0 → (Q (-1000000001) h1))))
theorem G_X12_keep {x0 : Nat} {x1 : Int} (h : Hp) (Q : Int → Hp → Prop) (hV : V_X12_keep x0 x1 h Q) : C_X12_keep x0 x1 h Q := by
  unfold V_X12_keep at hV
  show Go i_X12_keep 0 [(0, .inr (.inr x0)), (1, .inl x1)] [] h (qI Q)
  refine s_iload_n d_X12_keep_0 rfl (ma 1 rfl) ?_
  refine s_iconst d_X12_keep_1 (okn rfl) ?_
  refine s_iconst d_X12_keep_2 (okn rfl) ?_
  refine v_RX12_90 rfl (Nat.le_of_ble_eq_true rfl) d_X12_keep_3 (Nat.le_of_ble_eq_true rfl) hV (fun r2 h1 hV => ?_)
  refine s_if_ne (tgt := 12) d_X12_keep_6 (by decide) (fun c => ?_) (fun c => ?_)
  · have hV := hV.1 c
    refine s_aload_n d_X12_keep_12 rfl (ma 0 rfl) ?_
    obtain ⟨o, hV⟩ := hV
    refine f_RX12_32g rfl d_X12_keep_13 o ?_
    refine s_iconst d_X12_keep_16 (okn rfl) ?_
    refine s_aload_n d_X12_keep_17 rfl (ma 0 rfl) ?_
    obtain ⟨o, hV⟩ := hV
    refine f_RX12_38g rfl d_X12_keep_18 o ?_
    refine s_bipush d_X12_keep_21 (by decide) (okn rfl) ?_
    refine s_iload_n d_X12_keep_23 rfl (ma 1 rfl) ?_
    obtain ⟨o, hV⟩ := hV
    refine s_imul d_X12_keep_24 o ?_
    refine s_bipush d_X12_keep_25 (by decide) (okn rfl) ?_
    refine v_RX12_136 rfl (Nat.le_of_ble_eq_true rfl) d_X12_keep_27 (Nat.le_of_ble_eq_true rfl) hV (fun h3 hV => ?_)
    refine s_aload_n d_X12_keep_30 rfl (ma 0 rfl) ?_
    obtain ⟨o, hV⟩ := hV
    refine f_RX12_41g rfl d_X12_keep_31 o ?_
    refine s_iload_n d_X12_keep_34 rfl (ma 1 rfl) ?_
    refine s_aload_n d_X12_keep_35 rfl (ma 0 rfl) ?_
    obtain ⟨o, hV⟩ := hV
    refine f_RX12_222g rfl d_X12_keep_36 o ?_
    obtain ⟨o, hV⟩ := hV
    refine s_iast d_X12_keep_39 o.1 o.2.1 o.2.2 ?_
    refine s_nmH (fun h4 eh4 => ?_)
    have hV := hV h4 eh4
    refine s_aload_n d_X12_keep_40 rfl (ma 0 rfl) ?_
    obtain ⟨o, hV⟩ := hV
    refine f_RX12_44g rfl d_X12_keep_41 o ?_
    refine s_iload_n d_X12_keep_44 rfl (ma 1 rfl) ?_
    refine s_iconst d_X12_keep_45 (okn rfl) ?_
    obtain ⟨o, hV⟩ := hV
    refine s_zast d_X12_keep_46 o.1 o.2.1 o.2.2.1 o.2.2.2 ?_
    refine s_nmH (fun h5 eh5 => ?_)
    have hV := hV h5 eh5
    refine s_aload_n d_X12_keep_47 rfl (ma 0 rfl) ?_
    refine s_iconst d_X12_keep_48 (okn rfl) ?_
    obtain ⟨o, hV⟩ := hV
    refine f_RX12_143p rfl d_X12_keep_49 o (fun h6 eh6 => ?_)
    have hV := hV h6 eh6
    refine s_iconst d_X12_keep_52 (okn rfl) ?_
    exact s_iret d_X12_keep_53 rfl rfl ⟨_, rfl, hV⟩
  · have hV := hV.2 c
    refine s_ldc (n := (-1000000001)) d_X12_keep_9 k_RX12_181 (by decide) (okn rfl) ?_
    exact s_iret d_X12_keep_11 rfl rfl ⟨_, rfl, hV⟩

theorem d_X12_goBack_0 : decode i_X12_goBack.2.1 0 = .ok (.iload_n 1, 1) := by decide +kernel
theorem d_X12_goBack_1 : decode i_X12_goBack.2.1 1 = .ok (.iconst 0, 1) := by decide +kernel
theorem d_X12_goBack_2 : decode i_X12_goBack.2.1 2 = .ok (.iconst 1, 1) := by decide +kernel
theorem d_X12_goBack_3 : decode i_X12_goBack.2.1 3 = .ok (.invokestatic 90, 3) := by decide +kernel
theorem d_X12_goBack_6 : decode i_X12_goBack.2.1 6 = .ok (.ifCond .ne 6, 3) := by decide +kernel
theorem d_X12_goBack_9 : decode i_X12_goBack.2.1 9 = .ok (.ldc 181, 2) := by decide +kernel
theorem d_X12_goBack_11 : decode i_X12_goBack.2.1 11 = .ok (.ireturn, 1) := by decide +kernel
theorem d_X12_goBack_12 : decode i_X12_goBack.2.1 12 = .ok (.aload_n 0, 1) := by decide +kernel
theorem d_X12_goBack_13 : decode i_X12_goBack.2.1 13 = .ok (.getfield 44, 3) := by decide +kernel
theorem d_X12_goBack_16 : decode i_X12_goBack.2.1 16 = .ok (.iload_n 1, 1) := by decide +kernel
theorem d_X12_goBack_17 : decode i_X12_goBack.2.1 17 = .ok (.baload, 1) := by decide +kernel
theorem d_X12_goBack_18 : decode i_X12_goBack.2.1 18 = .ok (.ifCond .ne 6, 3) := by decide +kernel
theorem d_X12_goBack_21 : decode i_X12_goBack.2.1 21 = .ok (.ldc 221, 2) := by decide +kernel
theorem d_X12_goBack_23 : decode i_X12_goBack.2.1 23 = .ok (.ireturn, 1) := by decide +kernel
theorem d_X12_goBack_24 : decode i_X12_goBack.2.1 24 = .ok (.aload_n 0, 1) := by decide +kernel
theorem d_X12_goBack_25 : decode i_X12_goBack.2.1 25 = .ok (.getfield 38, 3) := by decide +kernel
theorem d_X12_goBack_28 : decode i_X12_goBack.2.1 28 = .ok (.bipush 103, 2) := by decide +kernel
theorem d_X12_goBack_30 : decode i_X12_goBack.2.1 30 = .ok (.iload_n 1, 1) := by decide +kernel
theorem d_X12_goBack_31 : decode i_X12_goBack.2.1 31 = .ok (.imul, 1) := by decide +kernel
theorem d_X12_goBack_32 : decode i_X12_goBack.2.1 32 = .ok (.aload_n 0, 1) := by decide +kernel
theorem d_X12_goBack_33 : decode i_X12_goBack.2.1 33 = .ok (.getfield 32, 3) := by decide +kernel
theorem d_X12_goBack_36 : decode i_X12_goBack.2.1 36 = .ok (.iconst 0, 1) := by decide +kernel
theorem d_X12_goBack_37 : decode i_X12_goBack.2.1 37 = .ok (.bipush 103, 2) := by decide +kernel
theorem d_X12_goBack_39 : decode i_X12_goBack.2.1 39 = .ok (.invokestatic 136, 3) := by decide +kernel
theorem d_X12_goBack_42 : decode i_X12_goBack.2.1 42 = .ok (.aload_n 0, 1) := by decide +kernel
theorem d_X12_goBack_43 : decode i_X12_goBack.2.1 43 = .ok (.aload_n 0, 1) := by decide +kernel
theorem d_X12_goBack_44 : decode i_X12_goBack.2.1 44 = .ok (.getfield 41, 3) := by decide +kernel
theorem d_X12_goBack_47 : decode i_X12_goBack.2.1 47 = .ok (.iload_n 1, 1) := by decide +kernel
theorem d_X12_goBack_48 : decode i_X12_goBack.2.1 48 = .ok (.iaload, 1) := by decide +kernel
theorem d_X12_goBack_49 : decode i_X12_goBack.2.1 49 = .ok (.putfield 222, 3) := by decide +kernel
theorem d_X12_goBack_52 : decode i_X12_goBack.2.1 52 = .ok (.aload_n 0, 1) := by decide +kernel
theorem d_X12_goBack_53 : decode i_X12_goBack.2.1 53 = .ok (.iconst 0, 1) := by decide +kernel
theorem d_X12_goBack_54 : decode i_X12_goBack.2.1 54 = .ok (.putfield 143, 3) := by decide +kernel
theorem d_X12_goBack_57 : decode i_X12_goBack.2.1 57 = .ok (.iconst 1, 1) := by decide +kernel
theorem d_X12_goBack_58 : decode i_X12_goBack.2.1 58 = .ok (.ireturn, 1) := by decide +kernel
def V_X12_goBack (x0 : Nat) (x1 : Int) (h : Hp) (Q : Int → Hp → Prop) : Prop :=
  C_X12_is x1 0 1 h (fun r2 h1 => ((r2 ≠ 0 → (hK h1 x0 = 11 ∧ ((hK h1 (hR h1 x0 19) = 15 ∧ (0 : Int) ≤ x1 ∧ x1 < hL h1 (hR h1 x0 19)) ∧ ((hI h1 (hR h1 x0 19) x1 ≠ 0 → (hK h1 x0 = 11 ∧ (((-2147483648 : Int) ≤ 103 * x1 ∧ 103 * x1 ≤ (2147483647 : Int)) ∧ (hK h1 x0 = 11 ∧ (C_X12_bring (hR h1 x0 17) (103 * x1) (hR h1 x0 14) 0 103 h1 (fun h3 => (hK h3 x0 = 11 ∧ ((hK h3 (hR h3 x0 18) = 12 ∧ (0 : Int) ≤ x1 ∧ x1 < hL h3 (hR h3 x0 18)) ∧ (hK h3 x0 = 11 ∧ ∀ h4 : Hp, h4 = wI h3 x0 20 (hI h3 (hR h3 x0 18) x1) → (hK h4 x0 = 11 ∧ ∀ h5 : Hp, h5 = wI h4 x0 16 0 → (Q 1 h5))))))))))) ∧ (hI h1 (hR h1 x0 19) x1 = 0 → (Q (-1000000003) h1)))))) ∧ (r2 = 0 → (Q (-1000000001) h1))))
theorem G_X12_goBack {x0 : Nat} {x1 : Int} (h : Hp) (Q : Int → Hp → Prop) (hV : V_X12_goBack x0 x1 h Q) : C_X12_goBack x0 x1 h Q := by
  unfold V_X12_goBack at hV
  show Go i_X12_goBack 0 [(0, .inr (.inr x0)), (1, .inl x1)] [] h (qI Q)
  refine s_iload_n d_X12_goBack_0 rfl (ma 1 rfl) ?_
  refine s_iconst d_X12_goBack_1 (okn rfl) ?_
  refine s_iconst d_X12_goBack_2 (okn rfl) ?_
  refine v_RX12_90 rfl (Nat.le_of_ble_eq_true rfl) d_X12_goBack_3 (Nat.le_of_ble_eq_true rfl) hV (fun r2 h1 hV => ?_)
  refine s_if_ne (tgt := 12) d_X12_goBack_6 (by decide) (fun c => ?_) (fun c => ?_)
  · have hV := hV.1 c
    refine s_aload_n d_X12_goBack_12 rfl (ma 0 rfl) ?_
    obtain ⟨o, hV⟩ := hV
    refine f_RX12_44g rfl d_X12_goBack_13 o ?_
    refine s_iload_n d_X12_goBack_16 rfl (ma 1 rfl) ?_
    obtain ⟨o, hV⟩ := hV
    refine s_zald d_X12_goBack_17 o.1 o.2.1 o.2.2 ?_
    refine s_if_ne (tgt := 24) d_X12_goBack_18 (by decide) (fun c => ?_) (fun c => ?_)
    · have hV := hV.1 c
      refine s_aload_n d_X12_goBack_24 rfl (ma 0 rfl) ?_
      obtain ⟨o, hV⟩ := hV
      refine f_RX12_38g rfl d_X12_goBack_25 o ?_
      refine s_bipush d_X12_goBack_28 (by decide) (okn rfl) ?_
      refine s_iload_n d_X12_goBack_30 rfl (ma 1 rfl) ?_
      obtain ⟨o, hV⟩ := hV
      refine s_imul d_X12_goBack_31 o ?_
      refine s_aload_n d_X12_goBack_32 rfl (ma 0 rfl) ?_
      obtain ⟨o, hV⟩ := hV
      refine f_RX12_32g rfl d_X12_goBack_33 o ?_
      refine s_iconst d_X12_goBack_36 (okn rfl) ?_
      refine s_bipush d_X12_goBack_37 (by decide) (okn rfl) ?_
      refine v_RX12_136 rfl (Nat.le_of_ble_eq_true rfl) d_X12_goBack_39 (Nat.le_of_ble_eq_true rfl) hV (fun h3 hV => ?_)
      refine s_aload_n d_X12_goBack_42 rfl (ma 0 rfl) ?_
      refine s_aload_n d_X12_goBack_43 rfl (ma 0 rfl) ?_
      obtain ⟨o, hV⟩ := hV
      refine f_RX12_41g rfl d_X12_goBack_44 o ?_
      refine s_iload_n d_X12_goBack_47 rfl (ma 1 rfl) ?_
      obtain ⟨o, hV⟩ := hV
      refine s_iald d_X12_goBack_48 o.1 o.2.1 o.2.2 ?_
      obtain ⟨o, hV⟩ := hV
      refine f_RX12_222p rfl d_X12_goBack_49 o (fun h4 eh4 => ?_)
      have hV := hV h4 eh4
      refine s_aload_n d_X12_goBack_52 rfl (ma 0 rfl) ?_
      refine s_iconst d_X12_goBack_53 (okn rfl) ?_
      obtain ⟨o, hV⟩ := hV
      refine f_RX12_143p rfl d_X12_goBack_54 o (fun h5 eh5 => ?_)
      have hV := hV h5 eh5
      refine s_iconst d_X12_goBack_57 (okn rfl) ?_
      exact s_iret d_X12_goBack_58 rfl rfl ⟨_, rfl, hV⟩
    · have hV := hV.2 c
      refine s_ldc (n := (-1000000003)) d_X12_goBack_21 k_RX12_221 (by decide) (okn rfl) ?_
      exact s_iret d_X12_goBack_23 rfl rfl ⟨_, rfl, hV⟩
  · have hV := hV.2 c
    refine s_ldc (n := (-1000000001)) d_X12_goBack_9 k_RX12_181 (by decide) (okn rfl) ?_
    exact s_iret d_X12_goBack_11 rfl rfl ⟨_, rfl, hV⟩
