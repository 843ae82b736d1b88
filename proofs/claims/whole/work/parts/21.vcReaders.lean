/-! printed by wip/gen/gen.py: Readers -/
theorem d_X7_say_0 : decode i_X7_say.2.1 0 = .ok (.aload_n 2, 1) := by decide +kernel
theorem d_X7_say_1 : decode i_X7_say.2.1 1 = .ok (.iconst 2, 1) := by decide +kernel
theorem d_X7_say_2 : decode i_X7_say.2.1 2 = .ok (.aload_n 1, 1) := by decide +kernel
theorem d_X7_say_3 : decode i_X7_say.2.1 3 = .ok (.getfield 9, 3) := by decide +kernel
theorem d_X7_say_6 : decode i_X7_say.2.1 6 = .ok (.imul, 1) := by decide +kernel
theorem d_X7_say_7 : decode i_X7_say.2.1 7 = .ok (.invokevirtual 15, 3) := by decide +kernel
theorem d_X7_say_10 : decode i_X7_say.2.1 10 = .ok (.iload_n 0, 1) := by decide +kernel
theorem d_X7_say_11 : decode i_X7_say.2.1 11 = .ok (.iconst 3, 1) := by decide +kernel
theorem d_X7_say_12 : decode i_X7_say.2.1 12 = .ok (.if_icmp .ne 11, 3) := by decide +kernel
theorem d_X7_say_15 : decode i_X7_say.2.1 15 = .ok (.aload_n 1, 1) := by decide +kernel
theorem d_X7_say_16 : decode i_X7_say.2.1 16 = .ok (.aload_n 2, 1) := by decide +kernel
theorem d_X7_say_17 : decode i_X7_say.2.1 17 = .ok (.invokestatic 19, 3) := by decide +kernel
theorem d_X7_say_20 : decode i_X7_say.2.1 20 = .ok (.goto 9, 3) := by decide +kernel
theorem d_X7_say_23 : decode i_X7_say.2.1 23 = .ok (.iload_n 0, 1) := by decide +kernel
theorem d_X7_say_24 : decode i_X7_say.2.1 24 = .ok (.aload_n 1, 1) := by decide +kernel
theorem d_X7_say_25 : decode i_X7_say.2.1 25 = .ok (.aload_n 2, 1) := by decide +kernel
theorem d_X7_say_26 : decode i_X7_say.2.1 26 = .ok (.invokestatic 25, 3) := by decide +kernel
theorem d_X7_say_29 : decode i_X7_say.2.1 29 = .ok (.return_, 1) := by decide +kernel
def V_X7_say (x0 : Int) (x1 : Nat) (x2 : Nat) (h : Hp) (Q : Hp → Prop) : Prop :=
  hK h x1 = 2 ∧ (((-2147483648 : Int) ≤ 2 * (hI h x1 1) ∧ 2 * (hI h x1 1) ≤ (2147483647 : Int)) ∧ (hK h x2 = 2 ∧ C_X2_startOver x2 (2 * (hI h x1 1)) h (fun h1 => ((x0 ≠ 3 → (C_X7_sayRuns x0 x1 x2 h1 (fun h2 => (Q h2)))) ∧ (x0 = 3 → (C_X7_sayCounts x1 x2 h1 (fun h3 => (Q h3))))))))
theorem G_X7_say {x0 : Int} {x1 : Nat} {x2 : Nat} (h : Hp) (Q : Hp → Prop) (hV : V_X7_say x0 x1 x2 h Q) : C_X7_say x0 x1 x2 h Q := by
  unfold V_X7_say at hV
  show Go i_X7_say 0 [(0, .inl x0), (1, .inr (.inr x1)), (2, .inr (.inr x2))] [] h (qV Q)
  refine s_aload_n d_X7_say_0 rfl (ma 2 rfl) ?_
  refine s_iconst d_X7_say_1 (okn rfl) ?_
  refine s_aload_n d_X7_say_2 rfl (ma 1 rfl) ?_
  obtain ⟨o, hV⟩ := hV
  refine f_RX7_9g rfl d_X7_say_3 o ?_
  obtain ⟨o, hV⟩ := hV
  refine s_imul d_X7_say_6 o ?_
  obtain ⟨o, hV⟩ := hV
  refine v_RX7_15 rfl (Nat.le_of_ble_eq_true rfl) d_X7_say_7 o (Nat.le_of_ble_eq_true rfl) hV (fun h1 hV => ?_)
  refine s_iload_n d_X7_say_10 rfl (ma 0 rfl) ?_
  refine s_iconst d_X7_say_11 (okn rfl) ?_
  refine s_icmp_ne (tgt := 23) d_X7_say_12 (by decide) (fun c => ?_) (fun c => ?_)
  · have hV := hV.1 c
    refine s_iload_n d_X7_say_23 rfl (ma 0 rfl) ?_
    refine s_aload_n d_X7_say_24 rfl (ma 1 rfl) ?_
    refine s_aload_n d_X7_say_25 rfl (ma 2 rfl) ?_
    refine v_RX7_25 rfl (Nat.le_of_ble_eq_true rfl) d_X7_say_26 (Nat.le_of_ble_eq_true rfl) hV (fun h2 hV => ?_)
    exact s_vret d_X7_say_29 rfl ⟨rfl, hV⟩
  · have hV := hV.2 c
    refine s_aload_n d_X7_say_15 rfl (ma 1 rfl) ?_
    refine s_aload_n d_X7_say_16 rfl (ma 2 rfl) ?_
    refine v_RX7_19 rfl (Nat.le_of_ble_eq_true rfl) d_X7_say_17 (Nat.le_of_ble_eq_true rfl) hV (fun h3 hV => ?_)
    refine s_goto (tgt := 29) d_X7_say_20 (by decide) ?_
    exact s_vret d_X7_say_29 rfl ⟨rfl, hV⟩

theorem d_X7_sayCounts_0 : decode i_X7_sayCounts.2.1 0 = .ok (.iconst 0, 1) := by decide +kernel
theorem d_X7_sayCounts_1 : decode i_X7_sayCounts.2.1 1 = .ok (.istore_n 2, 1) := by decide +kernel
theorem d_X7_sayCounts_2 : decode i_X7_sayCounts.2.1 2 = .ok (.iload_n 2, 1) := by decide +kernel
theorem d_X7_sayCounts_3 : decode i_X7_sayCounts.2.1 3 = .ok (.bipush 10, 2) := by decide +kernel
theorem d_X7_sayCounts_5 : decode i_X7_sayCounts.2.1 5 = .ok (.if_icmp .ge 20, 3) := by decide +kernel
theorem d_X7_sayCounts_8 : decode i_X7_sayCounts.2.1 8 = .ok (.iconst 3, 1) := by decide +kernel
theorem d_X7_sayCounts_9 : decode i_X7_sayCounts.2.1 9 = .ok (.aload_n 0, 1) := by decide +kernel
theorem d_X7_sayCounts_10 : decode i_X7_sayCounts.2.1 10 = .ok (.iload_n 2, 1) := by decide +kernel
theorem d_X7_sayCounts_11 : decode i_X7_sayCounts.2.1 11 = .ok (.invokevirtual 29, 3) := by decide +kernel
theorem d_X7_sayCounts_14 : decode i_X7_sayCounts.2.1 14 = .ok (.iload_n 2, 1) := by decide +kernel
theorem d_X7_sayCounts_15 : decode i_X7_sayCounts.2.1 15 = .ok (.aload_n 1, 1) := by decide +kernel
theorem d_X7_sayCounts_16 : decode i_X7_sayCounts.2.1 16 = .ok (.invokestatic 33, 3) := by decide +kernel
theorem d_X7_sayCounts_19 : decode i_X7_sayCounts.2.1 19 = .ok (.iinc 2 1, 3) := by decide +kernel
theorem d_X7_sayCounts_22 : decode i_X7_sayCounts.2.1 22 = .ok (.goto (-20), 3) := by decide +kernel
theorem d_X7_sayCounts_25 : decode i_X7_sayCounts.2.1 25 = .ok (.return_, 1) := by decide +kernel
def BLp_X7_sayCounts_2 (x0 : Nat) (x1 : Nat) (P2 : Int → Hp → Prop) (x2 : Int) (h : Hp) (Q : Hp → Prop) : Prop :=
  (10 ≤ x2 → (Q h)) ∧ (¬ 10 ≤ x2 → (hK h x0 = 2 ∧ C_X2_countOf x0 x2 h (fun r2 h1 => (C_X7_sayMany 3 r2 x2 x1 h1 (fun h3 => (((-2147483648 : Int) ≤ x2 + 1 ∧ x2 + 1 ≤ (2147483647 : Int)) ∧ (P2 (x2 + 1) h3)))))))
def Lp_X7_sayCounts_2 (x0 : Nat) (x1 : Nat) (x2 : Int) (h : Hp) (Q : Hp → Prop) : Prop := ∀ P2 : Int → Hp → Prop, (∀ (x2 : Int) (h : Hp), BLp_X7_sayCounts_2 x0 x1 P2 x2 h Q → P2 x2 h) → P2 x2 h
theorem Lp_X7_sayCounts_2_ind {x0 : Nat} {x1 : Nat} {Q : Hp → Prop} (I : Int → Hp → Prop) (μ : Int → Hp → Nat) (hs : ∀ (P2 : Int → Hp → Prop) (x2 : Int) (h : Hp), I x2 h → (∀ (x2' : Int) (h' : Hp), I x2' h' → μ x2' h' < μ x2 h → P2 x2' h') → BLp_X7_sayCounts_2 x0 x1 P2 x2 h Q) : ∀ (x2 : Int) (h : Hp), I x2 h → Lp_X7_sayCounts_2 x0 x1 x2 h Q := by
  intro x2 h hI P2 hP
  have key : ∀ (n : Nat) (x2 : Int) (h : Hp), I x2 h → μ x2 h < n → P2 x2 h := by
    intro n
    induction n with
    | zero => intro x2 h _ hl; exact absurd hl (Nat.not_lt_zero _)
    | succ n ih => intro x2 h hi hl; exact hP x2 h (hs P2 x2 h hi (fun x2 h' hi' hl' => ih x2 h' hi' (by omega)))
  exact key _ x2 h hI (Nat.lt_succ_self _)
theorem GLp_X7_sayCounts_2 (x0 : Nat) (x1 : Nat) (x2 : Int) (h : Hp) (Q : Hp → Prop) (hV : Lp_X7_sayCounts_2 x0 x1 x2 h Q) : Go i_X7_sayCounts 2 [(0, .inr (.inr x0)), (1, .inr (.inr x1)), (2, .inl x2)] [] h (qV Q) := by
  refine hV (fun x2 h => Go i_X7_sayCounts 2 [(0, .inr (.inr x0)), (1, .inr (.inr x1)), (2, .inl x2)] [] h (qV Q)) (fun x2 h hV => ?_)
  unfold BLp_X7_sayCounts_2 at hV
  have hP2 : ∀ (x2 : Int) (h : Hp), Go i_X7_sayCounts 2 [(0, .inr (.inr x0)), (1, .inr (.inr x1)), (2, .inl x2)] [] h (qV Q) → Go i_X7_sayCounts 2 [(0, .inr (.inr x0)), (1, .inr (.inr x1)), (2, .inl x2)] [] h (qV Q) := fun _ h z => z
  refine s_iload_n d_X7_sayCounts_2 rfl (ma 2 rfl) ?_
  refine s_bipush d_X7_sayCounts_3 (by decide) (okn rfl) ?_
  refine s_icmp_ge (tgt := 25) d_X7_sayCounts_5 (by decide) (fun c => ?_) (fun c => ?_)
  · have hV := hV.1 c
    exact s_vret d_X7_sayCounts_25 rfl ⟨rfl, hV⟩
  · have hV := hV.2 c
    refine s_iconst d_X7_sayCounts_8 (okn rfl) ?_
    refine s_aload_n d_X7_sayCounts_9 rfl (ma 0 rfl) ?_
    refine s_iload_n d_X7_sayCounts_10 rfl (ma 2 rfl) ?_
    obtain ⟨o, hV⟩ := hV
    refine v_RX7_29 rfl (Nat.le_of_ble_eq_true rfl) d_X7_sayCounts_11 o (Nat.le_of_ble_eq_true rfl) hV (fun r2 h1 hV => ?_)
    refine s_iload_n d_X7_sayCounts_14 rfl (ma 2 rfl) ?_
    refine s_aload_n d_X7_sayCounts_15 rfl (ma 1 rfl) ?_
    refine v_RX7_33 rfl (Nat.le_of_ble_eq_true rfl) d_X7_sayCounts_16 (Nat.le_of_ble_eq_true rfl) hV (fun h3 hV => ?_)
    obtain ⟨o, hV⟩ := hV
    refine s_iinc (lv' := [(2, .inl (x2 + 1)), (0, .inr (.inr x0)), (1, .inr (.inr x1))]) d_X7_sayCounts_19 (ma 2 rfl) o (Nat.le_of_ble_eq_true rfl) rfl ?_
    refine s_goto (tgt := 2) d_X7_sayCounts_22 (by decide) ?_
    refine s_pick (lv' := [(0, .inr (.inr x0)), (1, .inr (.inr x1)), (2, .inl (x2 + 1))]) [1, 2, 0] rfl ?_
    exact hP2 _ _ hV
def V_X7_sayCounts (x0 : Nat) (x1 : Nat) (h : Hp) (Q : Hp → Prop) : Prop :=
  Lp_X7_sayCounts_2 x0 x1 0 h Q
theorem G_X7_sayCounts {x0 : Nat} {x1 : Nat} (h : Hp) (Q : Hp → Prop) (hV : V_X7_sayCounts x0 x1 h Q) : C_X7_sayCounts x0 x1 h Q := by
  unfold V_X7_sayCounts at hV
  show Go i_X7_sayCounts 0 [(0, .inr (.inr x0)), (1, .inr (.inr x1))] [] h (qV Q)
  refine s_iconst d_X7_sayCounts_0 (okn rfl) ?_
  refine s_istore_n (lv' := [(2, .inl 0), (0, .inr (.inr x0)), (1, .inr (.inr x1))]) d_X7_sayCounts_1 rfl (Nat.le_of_ble_eq_true rfl) rfl ?_
  refine s_pick (lv' := [(0, .inr (.inr x0)), (1, .inr (.inr x1)), (2, .inl 0)]) [1, 2, 0] rfl ?_
  exact GLp_X7_sayCounts_2 _ _ _ _ _ hV

theorem d_X7_sayRuns_0 : decode i_X7_sayRuns.2.1 0 = .ok (.iconst (-1), 1) := by decide +kernel
theorem d_X7_sayRuns_1 : decode i_X7_sayRuns.2.1 1 = .ok (.istore_n 3, 1) := by decide +kernel
theorem d_X7_sayRuns_2 : decode i_X7_sayRuns.2.1 2 = .ok (.iconst 0, 1) := by decide +kernel
theorem d_X7_sayRuns_3 : decode i_X7_sayRuns.2.1 3 = .ok (.istore 4, 2) := by decide +kernel
theorem d_X7_sayRuns_5 : decode i_X7_sayRuns.2.1 5 = .ok (.iconst 0, 1) := by decide +kernel
theorem d_X7_sayRuns_6 : decode i_X7_sayRuns.2.1 6 = .ok (.istore 5, 2) := by decide +kernel
theorem d_X7_sayRuns_8 : decode i_X7_sayRuns.2.1 8 = .ok (.iload 5, 2) := by decide +kernel
theorem d_X7_sayRuns_10 : decode i_X7_sayRuns.2.1 10 = .ok (.aload_n 1, 1) := by decide +kernel
theorem d_X7_sayRuns_11 : decode i_X7_sayRuns.2.1 11 = .ok (.getfield 9, 3) := by decide +kernel
theorem d_X7_sayRuns_14 : decode i_X7_sayRuns.2.1 14 = .ok (.if_icmp .ge 58, 3) := by decide +kernel
theorem d_X7_sayRuns_17 : decode i_X7_sayRuns.2.1 17 = .ok (.aload_n 1, 1) := by decide +kernel
theorem d_X7_sayRuns_18 : decode i_X7_sayRuns.2.1 18 = .ok (.getfield 37, 3) := by decide +kernel
theorem d_X7_sayRuns_21 : decode i_X7_sayRuns.2.1 21 = .ok (.iload_n 0, 1) := by decide +kernel
theorem d_X7_sayRuns_22 : decode i_X7_sayRuns.2.1 22 = .ok (.iconst 2, 1) := by decide +kernel
theorem d_X7_sayRuns_23 : decode i_X7_sayRuns.2.1 23 = .ok (.if_icmp .ne 15, 3) := by decide +kernel
theorem d_X7_sayRuns_26 : decode i_X7_sayRuns.2.1 26 = .ok (.aload_n 1, 1) := by decide +kernel
theorem d_X7_sayRuns_27 : decode i_X7_sayRuns.2.1 27 = .ok (.getfield 9, 3) := by decide +kernel
theorem d_X7_sayRuns_30 : decode i_X7_sayRuns.2.1 30 = .ok (.iconst 1, 1) := by decide +kernel
theorem d_X7_sayRuns_31 : decode i_X7_sayRuns.2.1 31 = .ok (.isub, 1) := by decide +kernel
theorem d_X7_sayRuns_32 : decode i_X7_sayRuns.2.1 32 = .ok (.iload 5, 2) := by decide +kernel
theorem d_X7_sayRuns_34 : decode i_X7_sayRuns.2.1 34 = .ok (.isub, 1) := by decide +kernel
theorem d_X7_sayRuns_35 : decode i_X7_sayRuns.2.1 35 = .ok (.goto 5, 3) := by decide +kernel
theorem d_X7_sayRuns_38 : decode i_X7_sayRuns.2.1 38 = .ok (.iload 5, 2) := by decide +kernel
theorem d_X7_sayRuns_40 : decode i_X7_sayRuns.2.1 40 = .ok (.baload, 1) := by decide +kernel
theorem d_X7_sayRuns_41 : decode i_X7_sayRuns.2.1 41 = .ok (.istore 6, 2) := by decide +kernel
theorem d_X7_sayRuns_43 : decode i_X7_sayRuns.2.1 43 = .ok (.iload 6, 2) := by decide +kernel
theorem d_X7_sayRuns_45 : decode i_X7_sayRuns.2.1 45 = .ok (.iload_n 3, 1) := by decide +kernel
theorem d_X7_sayRuns_46 : decode i_X7_sayRuns.2.1 46 = .ok (.if_icmp .eq 17, 3) := by decide +kernel
theorem d_X7_sayRuns_49 : decode i_X7_sayRuns.2.1 49 = .ok (.iload_n 0, 1) := by decide +kernel
theorem d_X7_sayRuns_50 : decode i_X7_sayRuns.2.1 50 = .ok (.iload 4, 2) := by decide +kernel
theorem d_X7_sayRuns_52 : decode i_X7_sayRuns.2.1 52 = .ok (.iload_n 3, 1) := by decide +kernel
theorem d_X7_sayRuns_53 : decode i_X7_sayRuns.2.1 53 = .ok (.aload_n 2, 1) := by decide +kernel
theorem d_X7_sayRuns_54 : decode i_X7_sayRuns.2.1 54 = .ok (.invokestatic 33, 3) := by decide +kernel
theorem d_X7_sayRuns_57 : decode i_X7_sayRuns.2.1 57 = .ok (.iload 6, 2) := by decide +kernel
theorem d_X7_sayRuns_59 : decode i_X7_sayRuns.2.1 59 = .ok (.istore_n 3, 1) := by decide +kernel
theorem d_X7_sayRuns_60 : decode i_X7_sayRuns.2.1 60 = .ok (.iconst 0, 1) := by decide +kernel
theorem d_X7_sayRuns_61 : decode i_X7_sayRuns.2.1 61 = .ok (.istore 4, 2) := by decide +kernel
theorem d_X7_sayRuns_63 : decode i_X7_sayRuns.2.1 63 = .ok (.iinc 4 1, 3) := by decide +kernel
theorem d_X7_sayRuns_66 : decode i_X7_sayRuns.2.1 66 = .ok (.iinc 5 1, 3) := by decide +kernel
theorem d_X7_sayRuns_69 : decode i_X7_sayRuns.2.1 69 = .ok (.goto (-61), 3) := by decide +kernel
theorem d_X7_sayRuns_72 : decode i_X7_sayRuns.2.1 72 = .ok (.iload_n 0, 1) := by decide +kernel
theorem d_X7_sayRuns_73 : decode i_X7_sayRuns.2.1 73 = .ok (.iload 4, 2) := by decide +kernel
theorem d_X7_sayRuns_75 : decode i_X7_sayRuns.2.1 75 = .ok (.iload_n 3, 1) := by decide +kernel
theorem d_X7_sayRuns_76 : decode i_X7_sayRuns.2.1 76 = .ok (.aload_n 2, 1) := by decide +kernel
theorem d_X7_sayRuns_77 : decode i_X7_sayRuns.2.1 77 = .ok (.invokestatic 33, 3) := by decide +kernel
theorem d_X7_sayRuns_80 : decode i_X7_sayRuns.2.1 80 = .ok (.return_, 1) := by decide +kernel
def J_X7_sayRuns_40 (P8 : Int → Int → Int → Hp → Prop) (x0 : Int) (x1 : Nat) (x2 : Nat) (x3 : Int) (x4 : Int) (x5 : Int) (y0 : Int) (y1 : Nat) (h : Hp) (Q : Hp → Prop) : Prop :=
  (hK h y1 = 13 ∧ (0 : Int) ≤ y0 ∧ y0 < hL h y1) ∧ (∀ x6_1 : Int, x6_1 = hI h y1 y0 → ((x6_1 = x3 → (((-2147483648 : Int) ≤ x4 + 1 ∧ x4 + 1 ≤ (2147483647 : Int)) ∧ (((-2147483648 : Int) ≤ x5 + 1 ∧ x5 + 1 ≤ (2147483647 : Int)) ∧ (P8 x3 (x4 + 1) (x5 + 1) h)))) ∧ (¬ x6_1 = x3 → (C_X7_sayMany x0 x4 x3 x2 h (fun h2 => (((-2147483648 : Int) ≤ 0 + 1 ∧ 0 + 1 ≤ (2147483647 : Int)) ∧ (((-2147483648 : Int) ≤ x5 + 1 ∧ x5 + 1 ≤ (2147483647 : Int)) ∧ (P8 x6_1 (0 + 1) (x5 + 1) h2))))))))
theorem GJ_X7_sayRuns_40 {P8 : Int → Int → Int → Hp → Prop} (x0 : Int) (x1 : Nat) (x2 : Nat) (x3 : Int) (x4 : Int) (x5 : Int) (y0 : Int) (y1 : Nat) (h : Hp) (Q : Hp → Prop) (hP8 : ∀ (m3 : Int) (m4 : Int) (m5 : Int) (h : Hp), P8 m3 m4 m5 h → Go i_X7_sayRuns 8 [(0, .inl x0), (1, .inr (.inr x1)), (2, .inr (.inr x2)), (3, .inl m3), (4, .inl m4), (5, .inl m5)] [] h (qV Q)) (hV : J_X7_sayRuns_40 P8 x0 x1 x2 x3 x4 x5 y0 y1 h Q) : Go i_X7_sayRuns 40 [(0, .inl x0), (1, .inr (.inr x1)), (2, .inr (.inr x2)), (3, .inl x3), (4, .inl x4), (5, .inl x5)] [.inl y0, .inr (.inr y1)] h (qV Q) := by
  unfold J_X7_sayRuns_40 at hV
  obtain ⟨o, hV⟩ := hV
  refine s_bald d_X7_sayRuns_40 o.1 o.2.1 o.2.2 ?_
  refine s_nmI (fun x6_1 ex6_1 => ?_)
  have hV := hV x6_1 ex6_1
  refine s_istore (lv' := [(6, .inl x6_1), (0, .inl x0), (1, .inr (.inr x1)), (2, .inr (.inr x2)), (3, .inl x3), (4, .inl x4), (5, .inl x5)]) d_X7_sayRuns_41 (Nat.le_of_ble_eq_true rfl) rfl ?_
  refine s_iload d_X7_sayRuns_43 (ma 0 rfl) ?_
  refine s_iload_n d_X7_sayRuns_45 rfl (ma 4 rfl) ?_
  refine s_icmp_eq (tgt := 63) d_X7_sayRuns_46 (by decide) (fun c => ?_) (fun c => ?_)
  · have hV := hV.1 c
    obtain ⟨o, hV⟩ := hV
    refine s_iinc (lv' := [(4, .inl (x4 + 1)), (6, .inl x6_1), (0, .inl x0), (1, .inr (.inr x1)), (2, .inr (.inr x2)), (3, .inl x3), (5, .inl x5)]) d_X7_sayRuns_63 (ma 5 rfl) o (Nat.le_of_ble_eq_true rfl) rfl ?_
    obtain ⟨o, hV⟩ := hV
    refine s_iinc (lv' := [(5, .inl (x5 + 1)), (4, .inl (x4 + 1)), (6, .inl x6_1), (0, .inl x0), (1, .inr (.inr x1)), (2, .inr (.inr x2)), (3, .inl x3)]) d_X7_sayRuns_66 (ma 6 rfl) o (Nat.le_of_ble_eq_true rfl) rfl ?_
    refine s_goto (tgt := 8) d_X7_sayRuns_69 (by decide) ?_
    refine s_pick (lv' := [(0, .inl x0), (1, .inr (.inr x1)), (2, .inr (.inr x2)), (3, .inl x3), (4, .inl (x4 + 1)), (5, .inl (x5 + 1))]) [3, 4, 5, 6, 1, 0] rfl ?_
    exact hP8 _ _ _ _ hV
  · have hV := hV.2 c
    refine s_iload_n d_X7_sayRuns_49 rfl (ma 1 rfl) ?_
    refine s_iload d_X7_sayRuns_50 (ma 5 rfl) ?_
    refine s_iload_n d_X7_sayRuns_52 rfl (ma 4 rfl) ?_
    refine s_aload_n d_X7_sayRuns_53 rfl (ma 3 rfl) ?_
    refine v_RX7_33 rfl (Nat.le_of_ble_eq_true rfl) d_X7_sayRuns_54 (Nat.le_of_ble_eq_true rfl) hV (fun h2 hV => ?_)
    refine s_iload d_X7_sayRuns_57 (ma 0 rfl) ?_
    refine s_istore_n (lv' := [(3, .inl x6_1), (6, .inl x6_1), (0, .inl x0), (1, .inr (.inr x1)), (2, .inr (.inr x2)), (4, .inl x4), (5, .inl x5)]) d_X7_sayRuns_59 rfl (Nat.le_of_ble_eq_true rfl) rfl ?_
    refine s_iconst d_X7_sayRuns_60 (okn rfl) ?_
    refine s_istore (lv' := [(4, .inl 0), (3, .inl x6_1), (6, .inl x6_1), (0, .inl x0), (1, .inr (.inr x1)), (2, .inr (.inr x2)), (5, .inl x5)]) d_X7_sayRuns_61 (Nat.le_of_ble_eq_true rfl) rfl ?_
    obtain ⟨o, hV⟩ := hV
    refine s_iinc (lv' := [(4, .inl (0 + 1)), (3, .inl x6_1), (6, .inl x6_1), (0, .inl x0), (1, .inr (.inr x1)), (2, .inr (.inr x2)), (5, .inl x5)]) d_X7_sayRuns_63 (ma 0 rfl) o (Nat.le_of_ble_eq_true rfl) rfl ?_
    obtain ⟨o, hV⟩ := hV
    refine s_iinc (lv' := [(5, .inl (x5 + 1)), (4, .inl (0 + 1)), (3, .inl x6_1), (6, .inl x6_1), (0, .inl x0), (1, .inr (.inr x1)), (2, .inr (.inr x2))]) d_X7_sayRuns_66 (ma 6 rfl) o (Nat.le_of_ble_eq_true rfl) rfl ?_
    refine s_goto (tgt := 8) d_X7_sayRuns_69 (by decide) ?_
    refine s_pick (lv' := [(0, .inl x0), (1, .inr (.inr x1)), (2, .inr (.inr x2)), (3, .inl x6_1), (4, .inl (0 + 1)), (5, .inl (x5 + 1))]) [4, 5, 6, 2, 1, 0] rfl ?_
    exact hP8 _ _ _ _ hV
def BLp_X7_sayRuns_8 (x0 : Int) (x1 : Nat) (x2 : Nat) (P8 : Int → Int → Int → Hp → Prop) (x3 : Int) (x4 : Int) (x5 : Int) (h : Hp) (Q : Hp → Prop) : Prop :=
  hK h x1 = 2 ∧ ((hI h x1 1 ≤ x5 → (C_X7_sayMany x0 x4 x3 x2 h (fun h1 => (Q h1)))) ∧ (¬ hI h x1 1 ≤ x5 → (hK h x1 = 2 ∧ ((x0 ≠ 2 → (J_X7_sayRuns_40 P8 x0 x1 x2 x3 x4 x5 x5 (hR h x1 0) h Q)) ∧ (x0 = 2 → (hK h x1 = 2 ∧ (((-2147483648 : Int) ≤ (hI h x1 1) - 1 ∧ (hI h x1 1) - 1 ≤ (2147483647 : Int)) ∧ (((-2147483648 : Int) ≤ ((hI h x1 1) - 1) - x5 ∧ ((hI h x1 1) - 1) - x5 ≤ (2147483647 : Int)) ∧ (J_X7_sayRuns_40 P8 x0 x1 x2 x3 x4 x5 (((hI h x1 1) - 1) - x5) (hR h x1 0) h Q)))))))))
def Lp_X7_sayRuns_8 (x0 : Int) (x1 : Nat) (x2 : Nat) (x3 : Int) (x4 : Int) (x5 : Int) (h : Hp) (Q : Hp → Prop) : Prop := ∀ P8 : Int → Int → Int → Hp → Prop, (∀ (x3 : Int) (x4 : Int) (x5 : Int) (h : Hp), BLp_X7_sayRuns_8 x0 x1 x2 P8 x3 x4 x5 h Q → P8 x3 x4 x5 h) → P8 x3 x4 x5 h
theorem Lp_X7_sayRuns_8_ind {x0 : Int} {x1 : Nat} {x2 : Nat} {Q : Hp → Prop} (I : Int → Int → Int → Hp → Prop) (μ : Int → Int → Int → Hp → Nat) (hs : ∀ (P8 : Int → Int → Int → Hp → Prop) (x3 : Int) (x4 : Int) (x5 : Int) (h : Hp), I x3 x4 x5 h → (∀ (x3' : Int) (x4' : Int) (x5' : Int) (h' : Hp), I x3' x4' x5' h' → μ x3' x4' x5' h' < μ x3 x4 x5 h → P8 x3' x4' x5' h') → BLp_X7_sayRuns_8 x0 x1 x2 P8 x3 x4 x5 h Q) : ∀ (x3 : Int) (x4 : Int) (x5 : Int) (h : Hp), I x3 x4 x5 h → Lp_X7_sayRuns_8 x0 x1 x2 x3 x4 x5 h Q := by
  intro x3 x4 x5 h hI P8 hP
  have key : ∀ (n : Nat) (x3 : Int) (x4 : Int) (x5 : Int) (h : Hp), I x3 x4 x5 h → μ x3 x4 x5 h < n → P8 x3 x4 x5 h := by
    intro n
    induction n with
    | zero => intro x3 x4 x5 h _ hl; exact absurd hl (Nat.not_lt_zero _)
    | succ n ih => intro x3 x4 x5 h hi hl; exact hP x3 x4 x5 h (hs P8 x3 x4 x5 h hi (fun x3 x4 x5 h' hi' hl' => ih x3 x4 x5 h' hi' (by omega)))
  exact key _ x3 x4 x5 h hI (Nat.lt_succ_self _)
theorem GLp_X7_sayRuns_8 (x0 : Int) (x1 : Nat) (x2 : Nat) (x3 : Int) (x4 : Int) (x5 : Int) (h : Hp) (Q : Hp → Prop) (hV : Lp_X7_sayRuns_8 x0 x1 x2 x3 x4 x5 h Q) : Go i_X7_sayRuns 8 [(0, .inl x0), (1, .inr (.inr x1)), (2, .inr (.inr x2)), (3, .inl x3), (4, .inl x4), (5, .inl x5)] [] h (qV Q) := by
  refine hV (fun x3 x4 x5 h => Go i_X7_sayRuns 8 [(0, .inl x0), (1, .inr (.inr x1)), (2, .inr (.inr x2)), (3, .inl x3), (4, .inl x4), (5, .inl x5)] [] h (qV Q)) (fun x3 x4 x5 h hV => ?_)
  unfold BLp_X7_sayRuns_8 at hV
  have hP8 : ∀ (x3 : Int) (x4 : Int) (x5 : Int) (h : Hp), Go i_X7_sayRuns 8 [(0, .inl x0), (1, .inr (.inr x1)), (2, .inr (.inr x2)), (3, .inl x3), (4, .inl x4), (5, .inl x5)] [] h (qV Q) → Go i_X7_sayRuns 8 [(0, .inl x0), (1, .inr (.inr x1)), (2, .inr (.inr x2)), (3, .inl x3), (4, .inl x4), (5, .inl x5)] [] h (qV Q) := fun _ _ _ h z => z
  refine s_iload d_X7_sayRuns_8 (ma 5 rfl) ?_
  refine s_aload_n d_X7_sayRuns_10 rfl (ma 1 rfl) ?_
  obtain ⟨o, hV⟩ := hV
  refine f_RX7_9g rfl d_X7_sayRuns_11 o ?_
  refine s_icmp_ge (tgt := 72) d_X7_sayRuns_14 (by decide) (fun c => ?_) (fun c => ?_)
  · have hV := hV.1 c
    refine s_iload_n d_X7_sayRuns_72 rfl (ma 0 rfl) ?_
    refine s_iload d_X7_sayRuns_73 (ma 4 rfl) ?_
    refine s_iload_n d_X7_sayRuns_75 rfl (ma 3 rfl) ?_
    refine s_aload_n d_X7_sayRuns_76 rfl (ma 2 rfl) ?_
    refine v_RX7_33 rfl (Nat.le_of_ble_eq_true rfl) d_X7_sayRuns_77 (Nat.le_of_ble_eq_true rfl) hV (fun h1 hV => ?_)
    exact s_vret d_X7_sayRuns_80 rfl ⟨rfl, hV⟩
  · have hV := hV.2 c
    refine s_aload_n d_X7_sayRuns_17 rfl (ma 1 rfl) ?_
    obtain ⟨o, hV⟩ := hV
    refine f_RX7_37g rfl d_X7_sayRuns_18 o ?_
    refine s_iload_n d_X7_sayRuns_21 rfl (ma 0 rfl) ?_
    refine s_iconst d_X7_sayRuns_22 (okn rfl) ?_
    refine s_icmp_ne (tgt := 38) d_X7_sayRuns_23 (by decide) (fun c => ?_) (fun c => ?_)
    · have hV := hV.1 c
      refine s_iload d_X7_sayRuns_38 (ma 5 rfl) ?_
      exact GJ_X7_sayRuns_40 _ _ _ _ _ _ _ _ _ _ (by intros; apply hP8; assumption) hV
    · have hV := hV.2 c
      refine s_aload_n d_X7_sayRuns_26 rfl (ma 1 rfl) ?_
      obtain ⟨o, hV⟩ := hV
      refine f_RX7_9g rfl d_X7_sayRuns_27 o ?_
      refine s_iconst d_X7_sayRuns_30 (okn rfl) ?_
      obtain ⟨o, hV⟩ := hV
      refine s_isub d_X7_sayRuns_31 o ?_
      refine s_iload d_X7_sayRuns_32 (ma 5 rfl) ?_
      obtain ⟨o, hV⟩ := hV
      refine s_isub d_X7_sayRuns_34 o ?_
      refine s_goto (tgt := 40) d_X7_sayRuns_35 (by decide) ?_
      exact GJ_X7_sayRuns_40 _ _ _ _ _ _ _ _ _ _ (by intros; apply hP8; assumption) hV
def V_X7_sayRuns (x0 : Int) (x1 : Nat) (x2 : Nat) (h : Hp) (Q : Hp → Prop) : Prop :=
  Lp_X7_sayRuns_8 x0 x1 x2 (-1) 0 0 h Q
theorem G_X7_sayRuns {x0 : Int} {x1 : Nat} {x2 : Nat} (h : Hp) (Q : Hp → Prop) (hV : V_X7_sayRuns x0 x1 x2 h Q) : C_X7_sayRuns x0 x1 x2 h Q := by
  unfold V_X7_sayRuns at hV
  show Go i_X7_sayRuns 0 [(0, .inl x0), (1, .inr (.inr x1)), (2, .inr (.inr x2))] [] h (qV Q)
  refine s_iconst d_X7_sayRuns_0 (okn rfl) ?_
  refine s_istore_n (lv' := [(3, .inl (-1)), (0, .inl x0), (1, .inr (.inr x1)), (2, .inr (.inr x2))]) d_X7_sayRuns_1 rfl (Nat.le_of_ble_eq_true rfl) rfl ?_
  refine s_iconst d_X7_sayRuns_2 (okn rfl) ?_
  refine s_istore (lv' := [(4, .inl 0), (3, .inl (-1)), (0, .inl x0), (1, .inr (.inr x1)), (2, .inr (.inr x2))]) d_X7_sayRuns_3 (Nat.le_of_ble_eq_true rfl) rfl ?_
  refine s_iconst d_X7_sayRuns_5 (okn rfl) ?_
  refine s_istore (lv' := [(5, .inl 0), (4, .inl 0), (3, .inl (-1)), (0, .inl x0), (1, .inr (.inr x1)), (2, .inr (.inr x2))]) d_X7_sayRuns_6 (Nat.le_of_ble_eq_true rfl) rfl ?_
  refine s_pick (lv' := [(0, .inl x0), (1, .inr (.inr x1)), (2, .inr (.inr x2)), (3, .inl (-1)), (4, .inl 0), (5, .inl 0)]) [3, 4, 5, 2, 1, 0] rfl ?_
  exact GLp_X7_sayRuns_8 _ _ _ _ _ _ _ _ hV

theorem d_X7_sayMany_0 : decode i_X7_sayMany.2.1 0 = .ok (.iload_n 0, 1) := by decide +kernel
theorem d_X7_sayMany_1 : decode i_X7_sayMany.2.1 1 = .ok (.iconst 5, 1) := by decide +kernel
theorem d_X7_sayMany_2 : decode i_X7_sayMany.2.1 2 = .ok (.if_icmp .ne 11, 3) := by decide +kernel
theorem d_X7_sayMany_5 : decode i_X7_sayMany.2.1 5 = .ok (.iload_n 1, 1) := by decide +kernel
theorem d_X7_sayMany_6 : decode i_X7_sayMany.2.1 6 = .ok (.iconst 3, 1) := by decide +kernel
theorem d_X7_sayMany_7 : decode i_X7_sayMany.2.1 7 = .ok (.invokestatic 41, 3) := by decide +kernel
theorem d_X7_sayMany_10 : decode i_X7_sayMany.2.1 10 = .ok (.goto 4, 3) := by decide +kernel
theorem d_X7_sayMany_13 : decode i_X7_sayMany.2.1 13 = .ok (.iload_n 1, 1) := by decide +kernel
theorem d_X7_sayMany_14 : decode i_X7_sayMany.2.1 14 = .ok (.istore 4, 2) := by decide +kernel
theorem d_X7_sayMany_16 : decode i_X7_sayMany.2.1 16 = .ok (.iload 4, 2) := by decide +kernel
theorem d_X7_sayMany_18 : decode i_X7_sayMany.2.1 18 = .ok (.ifCond .le 80, 3) := by decide +kernel
theorem d_X7_sayMany_21 : decode i_X7_sayMany.2.1 21 = .ok (.iload 4, 2) := by decide +kernel
theorem d_X7_sayMany_23 : decode i_X7_sayMany.2.1 23 = .ok (.bipush 9, 2) := by decide +kernel
theorem d_X7_sayMany_25 : decode i_X7_sayMany.2.1 25 = .ok (.if_icmp .ge 8, 3) := by decide +kernel
theorem d_X7_sayMany_28 : decode i_X7_sayMany.2.1 28 = .ok (.iload 4, 2) := by decide +kernel
theorem d_X7_sayMany_30 : decode i_X7_sayMany.2.1 30 = .ok (.goto 5, 3) := by decide +kernel
theorem d_X7_sayMany_33 : decode i_X7_sayMany.2.1 33 = .ok (.bipush 9, 2) := by decide +kernel
theorem d_X7_sayMany_35 : decode i_X7_sayMany.2.1 35 = .ok (.istore 5, 2) := by decide +kernel
theorem d_X7_sayMany_37 : decode i_X7_sayMany.2.1 37 = .ok (.iload_n 0, 1) := by decide +kernel
theorem d_X7_sayMany_38 : decode i_X7_sayMany.2.1 38 = .ok (.iconst 4, 1) := by decide +kernel
theorem d_X7_sayMany_39 : decode i_X7_sayMany.2.1 39 = .ok (.if_icmp .ne 9, 3) := by decide +kernel
theorem d_X7_sayMany_42 : decode i_X7_sayMany.2.1 42 = .ok (.iload 5, 2) := by decide +kernel
theorem d_X7_sayMany_44 : decode i_X7_sayMany.2.1 44 = .ok (.iconst 1, 1) := by decide +kernel
theorem d_X7_sayMany_45 : decode i_X7_sayMany.2.1 45 = .ok (.if_icmp .le 7, 3) := by decide +kernel
theorem d_X7_sayMany_48 : decode i_X7_sayMany.2.1 48 = .ok (.iconst 1, 1) := by decide +kernel
theorem d_X7_sayMany_49 : decode i_X7_sayMany.2.1 49 = .ok (.goto 4, 3) := by decide +kernel
theorem d_X7_sayMany_52 : decode i_X7_sayMany.2.1 52 = .ok (.iconst 0, 1) := by decide +kernel
theorem d_X7_sayMany_53 : decode i_X7_sayMany.2.1 53 = .ok (.istore 6, 2) := by decide +kernel
theorem d_X7_sayMany_55 : decode i_X7_sayMany.2.1 55 = .ok (.iload 6, 2) := by decide +kernel
theorem d_X7_sayMany_57 : decode i_X7_sayMany.2.1 57 = .ok (.ifCond .eq 19, 3) := by decide +kernel
theorem d_X7_sayMany_60 : decode i_X7_sayMany.2.1 60 = .ok (.aload_n 3, 1) := by decide +kernel
theorem d_X7_sayMany_61 : decode i_X7_sayMany.2.1 61 = .ok (.iload_n 0, 1) := by decide +kernel
theorem d_X7_sayMany_62 : decode i_X7_sayMany.2.1 62 = .ok (.iconst 1, 1) := by decide +kernel
theorem d_X7_sayMany_63 : decode i_X7_sayMany.2.1 63 = .ok (.if_icmp .ne 7, 3) := by decide +kernel
theorem d_X7_sayMany_66 : decode i_X7_sayMany.2.1 66 = .ok (.iload_n 2, 1) := by decide +kernel
theorem d_X7_sayMany_67 : decode i_X7_sayMany.2.1 67 = .ok (.goto 5, 3) := by decide +kernel
theorem d_X7_sayMany_70 : decode i_X7_sayMany.2.1 70 = .ok (.iload 5, 2) := by decide +kernel
theorem d_X7_sayMany_72 : decode i_X7_sayMany.2.1 72 = .ok (.invokevirtual 47, 3) := by decide +kernel
theorem d_X7_sayMany_75 : decode i_X7_sayMany.2.1 75 = .ok (.pop, 1) := by decide +kernel
theorem d_X7_sayMany_76 : decode i_X7_sayMany.2.1 76 = .ok (.aload_n 3, 1) := by decide +kernel
theorem d_X7_sayMany_77 : decode i_X7_sayMany.2.1 77 = .ok (.iload_n 0, 1) := by decide +kernel
theorem d_X7_sayMany_78 : decode i_X7_sayMany.2.1 78 = .ok (.iconst 1, 1) := by decide +kernel
theorem d_X7_sayMany_79 : decode i_X7_sayMany.2.1 79 = .ok (.if_icmp .ne 8, 3) := by decide +kernel
theorem d_X7_sayMany_82 : decode i_X7_sayMany.2.1 82 = .ok (.iload 5, 2) := by decide +kernel
theorem d_X7_sayMany_84 : decode i_X7_sayMany.2.1 84 = .ok (.goto 4, 3) := by decide +kernel
theorem d_X7_sayMany_87 : decode i_X7_sayMany.2.1 87 = .ok (.iload_n 2, 1) := by decide +kernel
theorem d_X7_sayMany_88 : decode i_X7_sayMany.2.1 88 = .ok (.invokevirtual 47, 3) := by decide +kernel
theorem d_X7_sayMany_91 : decode i_X7_sayMany.2.1 91 = .ok (.pop, 1) := by decide +kernel
theorem d_X7_sayMany_92 : decode i_X7_sayMany.2.1 92 = .ok (.iinc 4 (-9), 3) := by decide +kernel
theorem d_X7_sayMany_95 : decode i_X7_sayMany.2.1 95 = .ok (.goto (-79), 3) := by decide +kernel
theorem d_X7_sayMany_98 : decode i_X7_sayMany.2.1 98 = .ok (.return_, 1) := by decide +kernel
def J_X7_sayMany_88 (P16 : Int → Hp → Prop) (x0 : Int) (x2 : Int) (x3 : Nat) (x4 : Int) (y0 : Int) (y1 : Nat) (h : Hp) (Q : Hp → Prop) : Prop :=
  hK h y1 = 2 ∧ C_X2_add y1 y0 h (fun r2 h1 => (((-2147483648 : Int) ≤ x4 + (-9) ∧ x4 + (-9) ≤ (2147483647 : Int)) ∧ (P16 (x4 + (-9)) h1)))
theorem GJ_X7_sayMany_88 {P16 : Int → Hp → Prop} (x0 : Int) (x2 : Int) (x3 : Nat) (x4 : Int) (y0 : Int) (y1 : Nat) (h : Hp) (Q : Hp → Prop) (hP16 : ∀ (m4 : Int) (h : Hp), P16 m4 h → Go i_X7_sayMany 16 [(0, .inl x0), (2, .inl x2), (3, .inr (.inr x3)), (4, .inl m4)] [] h (qV Q)) (hV : J_X7_sayMany_88 P16 x0 x2 x3 x4 y0 y1 h Q) : Go i_X7_sayMany 88 [(0, .inl x0), (2, .inl x2), (3, .inr (.inr x3)), (4, .inl x4)] [.inl y0, .inr (.inr y1)] h (qV Q) := by
  unfold J_X7_sayMany_88 at hV
  obtain ⟨o, hV⟩ := hV
  refine v_RX7_47 rfl (Nat.le_of_ble_eq_true rfl) d_X7_sayMany_88 o (Nat.le_of_ble_eq_true rfl) hV (fun r2 h1 hV => ?_)
  refine s_pop d_X7_sayMany_91 rfl ?_
  obtain ⟨o, hV⟩ := hV
  refine s_iinc (lv' := [(4, .inl (x4 + (-9))), (0, .inl x0), (2, .inl x2), (3, .inr (.inr x3))]) d_X7_sayMany_92 (ma 3 rfl) o (Nat.le_of_ble_eq_true rfl) rfl ?_
  refine s_goto (tgt := 16) d_X7_sayMany_95 (by decide) ?_
  refine s_pick (lv' := [(0, .inl x0), (2, .inl x2), (3, .inr (.inr x3)), (4, .inl (x4 + (-9)))]) [1, 2, 3, 0] rfl ?_
  exact hP16 _ _ hV
def J_X7_sayMany_76 (P16 : Int → Hp → Prop) (x0 : Int) (x2 : Int) (x3 : Nat) (x4 : Int) (x5 : Int) (h : Hp) (Q : Hp → Prop) : Prop :=
  (x0 ≠ 1 → (J_X7_sayMany_88 P16 x0 x2 x3 x4 x2 x3 h Q)) ∧ (x0 = 1 → (J_X7_sayMany_88 P16 x0 x2 x3 x4 x5 x3 h Q))
theorem GJ_X7_sayMany_76 {P16 : Int → Hp → Prop} (x0 : Int) (x2 : Int) (x3 : Nat) (x4 : Int) (x5 : Int) (h : Hp) (Q : Hp → Prop) (hP16 : ∀ (m4 : Int) (h : Hp), P16 m4 h → Go i_X7_sayMany 16 [(0, .inl x0), (2, .inl x2), (3, .inr (.inr x3)), (4, .inl m4)] [] h (qV Q)) (hV : J_X7_sayMany_76 P16 x0 x2 x3 x4 x5 h Q) : Go i_X7_sayMany 76 [(0, .inl x0), (2, .inl x2), (3, .inr (.inr x3)), (4, .inl x4), (5, .inl x5)] [] h (qV Q) := by
  unfold J_X7_sayMany_76 at hV
  refine s_aload_n d_X7_sayMany_76 rfl (ma 2 rfl) ?_
  refine s_iload_n d_X7_sayMany_77 rfl (ma 0 rfl) ?_
  refine s_iconst d_X7_sayMany_78 (okn rfl) ?_
  refine s_icmp_ne (tgt := 87) d_X7_sayMany_79 (by decide) (fun c => ?_) (fun c => ?_)
  · have hV := hV.1 c
    refine s_iload_n d_X7_sayMany_87 rfl (ma 1 rfl) ?_
    refine s_pick (lv' := [(0, .inl x0), (2, .inl x2), (3, .inr (.inr x3)), (4, .inl x4)]) [0, 1, 2, 3] rfl ?_
    exact GJ_X7_sayMany_88 _ _ _ _ _ _ _ _ (by intros; apply hP16; assumption) hV
  · have hV := hV.2 c
    refine s_iload d_X7_sayMany_82 (ma 4 rfl) ?_
    refine s_goto (tgt := 88) d_X7_sayMany_84 (by decide) ?_
    refine s_pick (lv' := [(0, .inl x0), (2, .inl x2), (3, .inr (.inr x3)), (4, .inl x4)]) [0, 1, 2, 3] rfl ?_
    exact GJ_X7_sayMany_88 _ _ _ _ _ _ _ _ (by intros; apply hP16; assumption) hV
def J_X7_sayMany_72 (P16 : Int → Hp → Prop) (x0 : Int) (x2 : Int) (x3 : Nat) (x4 : Int) (x5 : Int) (y0 : Int) (y1 : Nat) (h : Hp) (Q : Hp → Prop) : Prop :=
  hK h y1 = 2 ∧ C_X2_add y1 y0 h (fun r2 h1 => (J_X7_sayMany_76 P16 x0 x2 x3 x4 x5 h1 Q))
theorem GJ_X7_sayMany_72 {P16 : Int → Hp → Prop} (x0 : Int) (x2 : Int) (x3 : Nat) (x4 : Int) (x5 : Int) (y0 : Int) (y1 : Nat) (h : Hp) (Q : Hp → Prop) (hP16 : ∀ (m4 : Int) (h : Hp), P16 m4 h → Go i_X7_sayMany 16 [(0, .inl x0), (2, .inl x2), (3, .inr (.inr x3)), (4, .inl m4)] [] h (qV Q)) (hV : J_X7_sayMany_72 P16 x0 x2 x3 x4 x5 y0 y1 h Q) : Go i_X7_sayMany 72 [(0, .inl x0), (2, .inl x2), (3, .inr (.inr x3)), (4, .inl x4), (5, .inl x5)] [.inl y0, .inr (.inr y1)] h (qV Q) := by
  unfold J_X7_sayMany_72 at hV
  obtain ⟨o, hV⟩ := hV
  refine v_RX7_47 rfl (Nat.le_of_ble_eq_true rfl) d_X7_sayMany_72 o (Nat.le_of_ble_eq_true rfl) hV (fun r2 h1 hV => ?_)
  refine s_pop d_X7_sayMany_75 rfl ?_
  exact GJ_X7_sayMany_76 _ _ _ _ _ _ _ (by intros; apply hP16; assumption) hV
def J_X7_sayMany_53 (P16 : Int → Hp → Prop) (x0 : Int) (x2 : Int) (x3 : Nat) (x4 : Int) (x5 : Int) (y0 : Int) (h : Hp) (Q : Hp → Prop) : Prop :=
  (y0 = 0 → (J_X7_sayMany_76 P16 x0 x2 x3 x4 x5 h Q)) ∧ (¬ y0 = 0 → ((x0 ≠ 1 → (J_X7_sayMany_72 P16 x0 x2 x3 x4 x5 x5 x3 h Q)) ∧ (x0 = 1 → (J_X7_sayMany_72 P16 x0 x2 x3 x4 x5 x2 x3 h Q))))
theorem GJ_X7_sayMany_53 {P16 : Int → Hp → Prop} (x0 : Int) (x2 : Int) (x3 : Nat) (x4 : Int) (x5 : Int) (y0 : Int) (h : Hp) (Q : Hp → Prop) (hP16 : ∀ (m4 : Int) (h : Hp), P16 m4 h → Go i_X7_sayMany 16 [(0, .inl x0), (2, .inl x2), (3, .inr (.inr x3)), (4, .inl m4)] [] h (qV Q)) (hV : J_X7_sayMany_53 P16 x0 x2 x3 x4 x5 y0 h Q) : Go i_X7_sayMany 53 [(0, .inl x0), (2, .inl x2), (3, .inr (.inr x3)), (4, .inl x4), (5, .inl x5)] [.inl y0] h (qV Q) := by
  unfold J_X7_sayMany_53 at hV
  refine s_istore (lv' := [(6, .inl y0), (0, .inl x0), (2, .inl x2), (3, .inr (.inr x3)), (4, .inl x4), (5, .inl x5)]) d_X7_sayMany_53 (Nat.le_of_ble_eq_true rfl) rfl ?_
  refine s_iload d_X7_sayMany_55 (ma 0 rfl) ?_
  refine s_if_eq (tgt := 76) d_X7_sayMany_57 (by decide) (fun c => ?_) (fun c => ?_)
  · have hV := hV.1 c
    refine s_pick (lv' := [(0, .inl x0), (2, .inl x2), (3, .inr (.inr x3)), (4, .inl x4), (5, .inl x5)]) [1, 2, 3, 4, 5] rfl ?_
    exact GJ_X7_sayMany_76 _ _ _ _ _ _ _ (by intros; apply hP16; assumption) hV
  · have hV := hV.2 c
    refine s_aload_n d_X7_sayMany_60 rfl (ma 3 rfl) ?_
    refine s_iload_n d_X7_sayMany_61 rfl (ma 1 rfl) ?_
    refine s_iconst d_X7_sayMany_62 (okn rfl) ?_
    refine s_icmp_ne (tgt := 70) d_X7_sayMany_63 (by decide) (fun c => ?_) (fun c => ?_)
    · have hV := hV.1 c
      refine s_iload d_X7_sayMany_70 (ma 5 rfl) ?_
      refine s_pick (lv' := [(0, .inl x0), (2, .inl x2), (3, .inr (.inr x3)), (4, .inl x4), (5, .inl x5)]) [1, 2, 3, 4, 5] rfl ?_
      exact GJ_X7_sayMany_72 _ _ _ _ _ _ _ _ _ (by intros; apply hP16; assumption) hV
    · have hV := hV.2 c
      refine s_iload_n d_X7_sayMany_66 rfl (ma 2 rfl) ?_
      refine s_goto (tgt := 72) d_X7_sayMany_67 (by decide) ?_
      refine s_pick (lv' := [(0, .inl x0), (2, .inl x2), (3, .inr (.inr x3)), (4, .inl x4), (5, .inl x5)]) [1, 2, 3, 4, 5] rfl ?_
      exact GJ_X7_sayMany_72 _ _ _ _ _ _ _ _ _ (by intros; apply hP16; assumption) hV
def J_X7_sayMany_48 (P16 : Int → Hp → Prop) (x0 : Int) (x2 : Int) (x3 : Nat) (x4 : Int) (x5 : Int) (h : Hp) (Q : Hp → Prop) : Prop :=
  J_X7_sayMany_53 P16 x0 x2 x3 x4 x5 1 h Q
theorem GJ_X7_sayMany_48 {P16 : Int → Hp → Prop} (x0 : Int) (x2 : Int) (x3 : Nat) (x4 : Int) (x5 : Int) (h : Hp) (Q : Hp → Prop) (hP16 : ∀ (m4 : Int) (h : Hp), P16 m4 h → Go i_X7_sayMany 16 [(0, .inl x0), (2, .inl x2), (3, .inr (.inr x3)), (4, .inl m4)] [] h (qV Q)) (hV : J_X7_sayMany_48 P16 x0 x2 x3 x4 x5 h Q) : Go i_X7_sayMany 48 [(0, .inl x0), (2, .inl x2), (3, .inr (.inr x3)), (4, .inl x4), (5, .inl x5)] [] h (qV Q) := by
  unfold J_X7_sayMany_48 at hV
  refine s_iconst d_X7_sayMany_48 (okn rfl) ?_
  refine s_goto (tgt := 53) d_X7_sayMany_49 (by decide) ?_
  exact GJ_X7_sayMany_53 _ _ _ _ _ _ _ _ (by intros; apply hP16; assumption) hV
def J_X7_sayMany_35 (P16 : Int → Hp → Prop) (x0 : Int) (x2 : Int) (x3 : Nat) (x4 : Int) (y0 : Int) (h : Hp) (Q : Hp → Prop) : Prop :=
  (x0 ≠ 4 → (J_X7_sayMany_48 P16 x0 x2 x3 x4 y0 h Q)) ∧ (x0 = 4 → ((y0 ≤ 1 → (J_X7_sayMany_53 P16 x0 x2 x3 x4 y0 0 h Q)) ∧ (¬ y0 ≤ 1 → (J_X7_sayMany_48 P16 x0 x2 x3 x4 y0 h Q))))
theorem GJ_X7_sayMany_35 {P16 : Int → Hp → Prop} (x0 : Int) (x2 : Int) (x3 : Nat) (x4 : Int) (y0 : Int) (h : Hp) (Q : Hp → Prop) (hP16 : ∀ (m4 : Int) (h : Hp), P16 m4 h → Go i_X7_sayMany 16 [(0, .inl x0), (2, .inl x2), (3, .inr (.inr x3)), (4, .inl m4)] [] h (qV Q)) (hV : J_X7_sayMany_35 P16 x0 x2 x3 x4 y0 h Q) : Go i_X7_sayMany 35 [(0, .inl x0), (2, .inl x2), (3, .inr (.inr x3)), (4, .inl x4)] [.inl y0] h (qV Q) := by
  unfold J_X7_sayMany_35 at hV
  refine s_istore (lv' := [(5, .inl y0), (0, .inl x0), (2, .inl x2), (3, .inr (.inr x3)), (4, .inl x4)]) d_X7_sayMany_35 (Nat.le_of_ble_eq_true rfl) rfl ?_
  refine s_iload_n d_X7_sayMany_37 rfl (ma 1 rfl) ?_
  refine s_iconst d_X7_sayMany_38 (okn rfl) ?_
  refine s_icmp_ne (tgt := 48) d_X7_sayMany_39 (by decide) (fun c => ?_) (fun c => ?_)
  · have hV := hV.1 c
    refine s_pick (lv' := [(0, .inl x0), (2, .inl x2), (3, .inr (.inr x3)), (4, .inl x4), (5, .inl y0)]) [1, 2, 3, 4, 0] rfl ?_
    exact GJ_X7_sayMany_48 _ _ _ _ _ _ _ (by intros; apply hP16; assumption) hV
  · have hV := hV.2 c
    refine s_iload d_X7_sayMany_42 (ma 0 rfl) ?_
    refine s_iconst d_X7_sayMany_44 (okn rfl) ?_
    refine s_icmp_le (tgt := 52) d_X7_sayMany_45 (by decide) (fun c => ?_) (fun c => ?_)
    · have hV := hV.1 c
      refine s_iconst d_X7_sayMany_52 (okn rfl) ?_
      refine s_pick (lv' := [(0, .inl x0), (2, .inl x2), (3, .inr (.inr x3)), (4, .inl x4), (5, .inl y0)]) [1, 2, 3, 4, 0] rfl ?_
      exact GJ_X7_sayMany_53 _ _ _ _ _ _ _ _ (by intros; apply hP16; assumption) hV
    · have hV := hV.2 c
      refine s_pick (lv' := [(0, .inl x0), (2, .inl x2), (3, .inr (.inr x3)), (4, .inl x4), (5, .inl y0)]) [1, 2, 3, 4, 0] rfl ?_
      exact GJ_X7_sayMany_48 _ _ _ _ _ _ _ (by intros; apply hP16; assumption) hV
def BLp_X7_sayMany_16 (x0 : Int) (x2 : Int) (x3 : Nat) (P16 : Int → Hp → Prop) (x4 : Int) (h : Hp) (Q : Hp → Prop) : Prop :=
  (x4 ≤ 0 → (Q h)) ∧ (¬ x4 ≤ 0 → ((9 ≤ x4 → (J_X7_sayMany_35 P16 x0 x2 x3 x4 9 h Q)) ∧ (¬ 9 ≤ x4 → (J_X7_sayMany_35 P16 x0 x2 x3 x4 x4 h Q))))
def Lp_X7_sayMany_16 (x0 : Int) (x2 : Int) (x3 : Nat) (x4 : Int) (h : Hp) (Q : Hp → Prop) : Prop := ∀ P16 : Int → Hp → Prop, (∀ (x4 : Int) (h : Hp), BLp_X7_sayMany_16 x0 x2 x3 P16 x4 h Q → P16 x4 h) → P16 x4 h
theorem Lp_X7_sayMany_16_ind {x0 : Int} {x2 : Int} {x3 : Nat} {Q : Hp → Prop} (I : Int → Hp → Prop) (μ : Int → Hp → Nat) (hs : ∀ (P16 : Int → Hp → Prop) (x4 : Int) (h : Hp), I x4 h → (∀ (x4' : Int) (h' : Hp), I x4' h' → μ x4' h' < μ x4 h → P16 x4' h') → BLp_X7_sayMany_16 x0 x2 x3 P16 x4 h Q) : ∀ (x4 : Int) (h : Hp), I x4 h → Lp_X7_sayMany_16 x0 x2 x3 x4 h Q := by
  intro x4 h hI P16 hP
  have key : ∀ (n : Nat) (x4 : Int) (h : Hp), I x4 h → μ x4 h < n → P16 x4 h := by
    intro n
    induction n with
    | zero => intro x4 h _ hl; exact absurd hl (Nat.not_lt_zero _)
    | succ n ih => intro x4 h hi hl; exact hP x4 h (hs P16 x4 h hi (fun x4 h' hi' hl' => ih x4 h' hi' (by omega)))
  exact key _ x4 h hI (Nat.lt_succ_self _)
theorem GLp_X7_sayMany_16 (x0 : Int) (x2 : Int) (x3 : Nat) (x4 : Int) (h : Hp) (Q : Hp → Prop) (hV : Lp_X7_sayMany_16 x0 x2 x3 x4 h Q) : Go i_X7_sayMany 16 [(0, .inl x0), (2, .inl x2), (3, .inr (.inr x3)), (4, .inl x4)] [] h (qV Q) := by
  refine hV (fun x4 h => Go i_X7_sayMany 16 [(0, .inl x0), (2, .inl x2), (3, .inr (.inr x3)), (4, .inl x4)] [] h (qV Q)) (fun x4 h hV => ?_)
  unfold BLp_X7_sayMany_16 at hV
  have hP16 : ∀ (x4 : Int) (h : Hp), Go i_X7_sayMany 16 [(0, .inl x0), (2, .inl x2), (3, .inr (.inr x3)), (4, .inl x4)] [] h (qV Q) → Go i_X7_sayMany 16 [(0, .inl x0), (2, .inl x2), (3, .inr (.inr x3)), (4, .inl x4)] [] h (qV Q) := fun _ h z => z
  refine s_iload d_X7_sayMany_16 (ma 3 rfl) ?_
  refine s_if_le (tgt := 98) d_X7_sayMany_18 (by decide) (fun c => ?_) (fun c => ?_)
  · have hV := hV.1 c
    exact s_vret d_X7_sayMany_98 rfl ⟨rfl, hV⟩
  · have hV := hV.2 c
    refine s_iload d_X7_sayMany_21 (ma 3 rfl) ?_
    refine s_bipush d_X7_sayMany_23 (by decide) (okn rfl) ?_
    refine s_icmp_ge (tgt := 33) d_X7_sayMany_25 (by decide) (fun c => ?_) (fun c => ?_)
    · have hV := hV.1 c
      refine s_bipush d_X7_sayMany_33 (by decide) (okn rfl) ?_
      exact GJ_X7_sayMany_35 _ _ _ _ _ _ _ (by intros; apply hP16; assumption) hV
    · have hV := hV.2 c
      refine s_iload d_X7_sayMany_28 (ma 3 rfl) ?_
      refine s_goto (tgt := 35) d_X7_sayMany_30 (by decide) ?_
      exact GJ_X7_sayMany_35 _ _ _ _ _ _ _ (by intros; apply hP16; assumption) hV
def V_X7_sayMany (x0 : Int) (x1 : Int) (x2 : Int) (x3 : Nat) (h : Hp) (Q : Hp → Prop) : Prop :=
  (x0 ≠ 5 → (Lp_X7_sayMany_16 x0 x2 x3 x1 h Q)) ∧ (x0 = 5 → (∀ x4_1 : Int, x4_1 = min x1 3 → (Lp_X7_sayMany_16 x0 x2 x3 x4_1 h Q)))
theorem G_X7_sayMany {x0 : Int} {x1 : Int} {x2 : Int} {x3 : Nat} (h : Hp) (Q : Hp → Prop) (hV : V_X7_sayMany x0 x1 x2 x3 h Q) : C_X7_sayMany x0 x1 x2 x3 h Q := by
  unfold V_X7_sayMany at hV
  show Go i_X7_sayMany 0 [(0, .inl x0), (1, .inl x1), (2, .inl x2), (3, .inr (.inr x3))] [] h (qV Q)
  refine s_iload_n d_X7_sayMany_0 rfl (ma 0 rfl) ?_
  refine s_iconst d_X7_sayMany_1 (okn rfl) ?_
  refine s_icmp_ne (tgt := 13) d_X7_sayMany_2 (by decide) (fun c => ?_) (fun c => ?_)
  · have hV := hV.1 c
    refine s_iload_n d_X7_sayMany_13 rfl (ma 1 rfl) ?_
    refine s_istore (lv' := [(4, .inl x1), (0, .inl x0), (1, .inl x1), (2, .inl x2), (3, .inr (.inr x3))]) d_X7_sayMany_14 (Nat.le_of_ble_eq_true rfl) rfl ?_
    refine s_pick (lv' := [(0, .inl x0), (2, .inl x2), (3, .inr (.inr x3)), (4, .inl x1)]) [1, 3, 4, 0] rfl ?_
    exact GLp_X7_sayMany_16 _ _ _ _ _ _ hV
  · have hV := hV.2 c
    refine s_iload_n d_X7_sayMany_5 rfl (ma 1 rfl) ?_
    refine s_iconst d_X7_sayMany_6 (okn rfl) ?_
    refine s_mmin d_X7_sayMany_7 mm_RX7_41 (Nat.le_of_ble_eq_true rfl) (Nat.le_of_ble_eq_true rfl) ?_
    refine s_goto (tgt := 14) d_X7_sayMany_10 (by decide) ?_
    refine s_nmI (fun x4_1 ex4_1 => ?_)
    have hV := hV x4_1 ex4_1
    refine s_istore (lv' := [(4, .inl x4_1), (0, .inl x0), (1, .inl x1), (2, .inl x2), (3, .inr (.inr x3))]) d_X7_sayMany_14 (Nat.le_of_ble_eq_true rfl) rfl ?_
    refine s_pick (lv' := [(0, .inl x0), (2, .inl x2), (3, .inr (.inr x3)), (4, .inl x4_1)]) [1, 3, 4, 0] rfl ?_
    exact GLp_X7_sayMany_16 _ _ _ _ _ _ hV

theorem d_X7_sizeUnsaid_0 : decode i_X7_sizeUnsaid.2.1 0 = .ok (.aload_n 0, 1) := by decide +kernel
theorem d_X7_sizeUnsaid_1 : decode i_X7_sizeUnsaid.2.1 1 = .ok (.getfield 9, 3) := by decide +kernel
theorem d_X7_sizeUnsaid_4 : decode i_X7_sizeUnsaid.2.1 4 = .ok (.iconst 2, 1) := by decide +kernel
theorem d_X7_sizeUnsaid_5 : decode i_X7_sizeUnsaid.2.1 5 = .ok (.irem, 1) := by decide +kernel
theorem d_X7_sizeUnsaid_6 : decode i_X7_sizeUnsaid.2.1 6 = .ok (.ifCond .eq 5, 3) := by decide +kernel
theorem d_X7_sizeUnsaid_9 : decode i_X7_sizeUnsaid.2.1 9 = .ok (.iconst (-1), 1) := by decide +kernel
theorem d_X7_sizeUnsaid_10 : decode i_X7_sizeUnsaid.2.1 10 = .ok (.ireturn, 1) := by decide +kernel
theorem d_X7_sizeUnsaid_11 : decode i_X7_sizeUnsaid.2.1 11 = .ok (.iconst 0, 1) := by decide +kernel
theorem d_X7_sizeUnsaid_12 : decode i_X7_sizeUnsaid.2.1 12 = .ok (.istore_n 1, 1) := by decide +kernel
theorem d_X7_sizeUnsaid_13 : decode i_X7_sizeUnsaid.2.1 13 = .ok (.iconst 0, 1) := by decide +kernel
theorem d_X7_sizeUnsaid_14 : decode i_X7_sizeUnsaid.2.1 14 = .ok (.istore_n 2, 1) := by decide +kernel
theorem d_X7_sizeUnsaid_15 : decode i_X7_sizeUnsaid.2.1 15 = .ok (.iload_n 2, 1) := by decide +kernel
theorem d_X7_sizeUnsaid_16 : decode i_X7_sizeUnsaid.2.1 16 = .ok (.iconst 1, 1) := by decide +kernel
theorem d_X7_sizeUnsaid_17 : decode i_X7_sizeUnsaid.2.1 17 = .ok (.iadd, 1) := by decide +kernel
theorem d_X7_sizeUnsaid_18 : decode i_X7_sizeUnsaid.2.1 18 = .ok (.aload_n 0, 1) := by decide +kernel
theorem d_X7_sizeUnsaid_19 : decode i_X7_sizeUnsaid.2.1 19 = .ok (.getfield 9, 3) := by decide +kernel
theorem d_X7_sizeUnsaid_22 : decode i_X7_sizeUnsaid.2.1 22 = .ok (.if_icmp .ge 70, 3) := by decide +kernel
theorem d_X7_sizeUnsaid_25 : decode i_X7_sizeUnsaid.2.1 25 = .ok (.aload_n 0, 1) := by decide +kernel
theorem d_X7_sizeUnsaid_26 : decode i_X7_sizeUnsaid.2.1 26 = .ok (.iload_n 2, 1) := by decide +kernel
theorem d_X7_sizeUnsaid_27 : decode i_X7_sizeUnsaid.2.1 27 = .ok (.invokevirtual 51, 3) := by decide +kernel
theorem d_X7_sizeUnsaid_30 : decode i_X7_sizeUnsaid.2.1 30 = .ok (.istore_n 3, 1) := by decide +kernel
theorem d_X7_sizeUnsaid_31 : decode i_X7_sizeUnsaid.2.1 31 = .ok (.iload_n 2, 1) := by decide +kernel
theorem d_X7_sizeUnsaid_32 : decode i_X7_sizeUnsaid.2.1 32 = .ok (.ifCond .le 24, 3) := by decide +kernel
theorem d_X7_sizeUnsaid_35 : decode i_X7_sizeUnsaid.2.1 35 = .ok (.aload_n 0, 1) := by decide +kernel
theorem d_X7_sizeUnsaid_36 : decode i_X7_sizeUnsaid.2.1 36 = .ok (.iload_n 2, 1) := by decide +kernel
theorem d_X7_sizeUnsaid_37 : decode i_X7_sizeUnsaid.2.1 37 = .ok (.iconst 1, 1) := by decide +kernel
theorem d_X7_sizeUnsaid_38 : decode i_X7_sizeUnsaid.2.1 38 = .ok (.isub, 1) := by decide +kernel
theorem d_X7_sizeUnsaid_39 : decode i_X7_sizeUnsaid.2.1 39 = .ok (.invokevirtual 51, 3) := by decide +kernel
theorem d_X7_sizeUnsaid_42 : decode i_X7_sizeUnsaid.2.1 42 = .ok (.aload_n 0, 1) := by decide +kernel
theorem d_X7_sizeUnsaid_43 : decode i_X7_sizeUnsaid.2.1 43 = .ok (.iload_n 2, 1) := by decide +kernel
theorem d_X7_sizeUnsaid_44 : decode i_X7_sizeUnsaid.2.1 44 = .ok (.iconst 1, 1) := by decide +kernel
theorem d_X7_sizeUnsaid_45 : decode i_X7_sizeUnsaid.2.1 45 = .ok (.iadd, 1) := by decide +kernel
theorem d_X7_sizeUnsaid_46 : decode i_X7_sizeUnsaid.2.1 46 = .ok (.invokevirtual 51, 3) := by decide +kernel
theorem d_X7_sizeUnsaid_49 : decode i_X7_sizeUnsaid.2.1 49 = .ok (.if_icmp .ne 7, 3) := by decide +kernel
theorem d_X7_sizeUnsaid_52 : decode i_X7_sizeUnsaid.2.1 52 = .ok (.iconst 1, 1) := by decide +kernel
theorem d_X7_sizeUnsaid_53 : decode i_X7_sizeUnsaid.2.1 53 = .ok (.goto 4, 3) := by decide +kernel
theorem d_X7_sizeUnsaid_56 : decode i_X7_sizeUnsaid.2.1 56 = .ok (.iconst 0, 1) := by decide +kernel
theorem d_X7_sizeUnsaid_57 : decode i_X7_sizeUnsaid.2.1 57 = .ok (.istore 4, 2) := by decide +kernel
theorem d_X7_sizeUnsaid_59 : decode i_X7_sizeUnsaid.2.1 59 = .ok (.iload_n 3, 1) := by decide +kernel
theorem d_X7_sizeUnsaid_60 : decode i_X7_sizeUnsaid.2.1 60 = .ok (.ifCond .eq 20, 3) := by decide +kernel
theorem d_X7_sizeUnsaid_63 : decode i_X7_sizeUnsaid.2.1 63 = .ok (.iload 4, 2) := by decide +kernel
theorem d_X7_sizeUnsaid_65 : decode i_X7_sizeUnsaid.2.1 65 = .ok (.ifCond .eq 17, 3) := by decide +kernel
theorem d_X7_sizeUnsaid_68 : decode i_X7_sizeUnsaid.2.1 68 = .ok (.aload_n 0, 1) := by decide +kernel
theorem d_X7_sizeUnsaid_69 : decode i_X7_sizeUnsaid.2.1 69 = .ok (.iload_n 2, 1) := by decide +kernel
theorem d_X7_sizeUnsaid_70 : decode i_X7_sizeUnsaid.2.1 70 = .ok (.iconst 2, 1) := by decide +kernel
theorem d_X7_sizeUnsaid_71 : decode i_X7_sizeUnsaid.2.1 71 = .ok (.isub, 1) := by decide +kernel
theorem d_X7_sizeUnsaid_72 : decode i_X7_sizeUnsaid.2.1 72 = .ok (.invokevirtual 51, 3) := by decide +kernel
theorem d_X7_sizeUnsaid_75 : decode i_X7_sizeUnsaid.2.1 75 = .ok (.bipush 9, 2) := by decide +kernel
theorem d_X7_sizeUnsaid_77 : decode i_X7_sizeUnsaid.2.1 77 = .ok (.if_icmp .eq 5, 3) := by decide +kernel
theorem d_X7_sizeUnsaid_80 : decode i_X7_sizeUnsaid.2.1 80 = .ok (.iconst (-1), 1) := by decide +kernel
theorem d_X7_sizeUnsaid_81 : decode i_X7_sizeUnsaid.2.1 81 = .ok (.ireturn, 1) := by decide +kernel
theorem d_X7_sizeUnsaid_82 : decode i_X7_sizeUnsaid.2.1 82 = .ok (.iload_n 1, 1) := by decide +kernel
theorem d_X7_sizeUnsaid_83 : decode i_X7_sizeUnsaid.2.1 83 = .ok (.iload_n 3, 1) := by decide +kernel
theorem d_X7_sizeUnsaid_84 : decode i_X7_sizeUnsaid.2.1 84 = .ok (.iadd, 1) := by decide +kernel
theorem d_X7_sizeUnsaid_85 : decode i_X7_sizeUnsaid.2.1 85 = .ok (.istore_n 1, 1) := by decide +kernel
theorem d_X7_sizeUnsaid_86 : decode i_X7_sizeUnsaid.2.1 86 = .ok (.iinc 2 2, 3) := by decide +kernel
theorem d_X7_sizeUnsaid_89 : decode i_X7_sizeUnsaid.2.1 89 = .ok (.goto (-74), 3) := by decide +kernel
theorem d_X7_sizeUnsaid_92 : decode i_X7_sizeUnsaid.2.1 92 = .ok (.iload_n 1, 1) := by decide +kernel
theorem d_X7_sizeUnsaid_93 : decode i_X7_sizeUnsaid.2.1 93 = .ok (.ireturn, 1) := by decide +kernel
def J_X7_sizeUnsaid_57 (P15 : Int → Int → Hp → Prop) (x0 : Nat) (x1 : Int) (x2 : Int) (x3 : Int) (y0 : Int) (h : Hp) (Q : Int → Hp → Prop) : Prop :=
  (x3 = 0 → (Q (-1) h)) ∧ (¬ x3 = 0 → ((y0 = 0 → (((-2147483648 : Int) ≤ x1 + x3 ∧ x1 + x3 ≤ (2147483647 : Int)) ∧ (∀ x1_1 : Int, x1_1 = x1 + x3 → (((-2147483648 : Int) ≤ x2 + 2 ∧ x2 + 2 ≤ (2147483647 : Int)) ∧ (P15 x1_1 (x2 + 2) h))))) ∧ (¬ y0 = 0 → (((-2147483648 : Int) ≤ x2 - 2 ∧ x2 - 2 ≤ (2147483647 : Int)) ∧ (hK h x0 = 2 ∧ C_X2_get x0 (x2 - 2) h (fun r3 h2 => ((r3 = 9 → (((-2147483648 : Int) ≤ x1 + x3 ∧ x1 + x3 ≤ (2147483647 : Int)) ∧ (∀ x1_4 : Int, x1_4 = x1 + x3 → (((-2147483648 : Int) ≤ x2 + 2 ∧ x2 + 2 ≤ (2147483647 : Int)) ∧ (P15 x1_4 (x2 + 2) h2))))) ∧ (¬ r3 = 9 → (Q (-1) h2)))))))))
theorem GJ_X7_sizeUnsaid_57 {P15 : Int → Int → Hp → Prop} (x0 : Nat) (x1 : Int) (x2 : Int) (x3 : Int) (y0 : Int) (h : Hp) (Q : Int → Hp → Prop) (hP15 : ∀ (m1 : Int) (m2 : Int) (h : Hp), P15 m1 m2 h → Go i_X7_sizeUnsaid 15 [(0, .inr (.inr x0)), (1, .inl m1), (2, .inl m2)] [] h (qI Q)) (hV : J_X7_sizeUnsaid_57 P15 x0 x1 x2 x3 y0 h Q) : Go i_X7_sizeUnsaid 57 [(0, .inr (.inr x0)), (1, .inl x1), (2, .inl x2), (3, .inl x3)] [.inl y0] h (qI Q) := by
  unfold J_X7_sizeUnsaid_57 at hV
  refine s_istore (lv' := [(4, .inl y0), (0, .inr (.inr x0)), (1, .inl x1), (2, .inl x2), (3, .inl x3)]) d_X7_sizeUnsaid_57 (Nat.le_of_ble_eq_true rfl) rfl ?_
  refine s_iload_n d_X7_sizeUnsaid_59 rfl (ma 4 rfl) ?_
  refine s_if_eq (tgt := 80) d_X7_sizeUnsaid_60 (by decide) (fun c => ?_) (fun c => ?_)
  · have hV := hV.1 c
    refine s_iconst d_X7_sizeUnsaid_80 (okn rfl) ?_
    exact s_iret d_X7_sizeUnsaid_81 rfl rfl ⟨_, rfl, hV⟩
  · have hV := hV.2 c
    refine s_iload d_X7_sizeUnsaid_63 (ma 0 rfl) ?_
    refine s_if_eq (tgt := 82) d_X7_sizeUnsaid_65 (by decide) (fun c => ?_) (fun c => ?_)
    · have hV := hV.1 c
      refine s_iload_n d_X7_sizeUnsaid_82 rfl (ma 2 rfl) ?_
      refine s_iload_n d_X7_sizeUnsaid_83 rfl (ma 4 rfl) ?_
      obtain ⟨o, hV⟩ := hV
      refine s_iadd d_X7_sizeUnsaid_84 o ?_
      refine s_nmI (fun x1_1 ex1_1 => ?_)
      have hV := hV x1_1 ex1_1
      refine s_istore_n (lv' := [(1, .inl x1_1), (4, .inl y0), (0, .inr (.inr x0)), (2, .inl x2), (3, .inl x3)]) d_X7_sizeUnsaid_85 rfl (Nat.le_of_ble_eq_true rfl) rfl ?_
      obtain ⟨o, hV⟩ := hV
      refine s_iinc (lv' := [(2, .inl (x2 + 2)), (1, .inl x1_1), (4, .inl y0), (0, .inr (.inr x0)), (3, .inl x3)]) d_X7_sizeUnsaid_86 (ma 3 rfl) o (Nat.le_of_ble_eq_true rfl) rfl ?_
      refine s_goto (tgt := 15) d_X7_sizeUnsaid_89 (by decide) ?_
      refine s_pick (lv' := [(0, .inr (.inr x0)), (1, .inl x1_1), (2, .inl (x2 + 2))]) [3, 1, 0] rfl ?_
      exact hP15 _ _ _ hV
    · have hV := hV.2 c
      refine s_aload_n d_X7_sizeUnsaid_68 rfl (ma 1 rfl) ?_
      refine s_iload_n d_X7_sizeUnsaid_69 rfl (ma 3 rfl) ?_
      refine s_iconst d_X7_sizeUnsaid_70 (okn rfl) ?_
      obtain ⟨o, hV⟩ := hV
      refine s_isub d_X7_sizeUnsaid_71 o ?_
      obtain ⟨o, hV⟩ := hV
      refine v_RX7_51 rfl (Nat.le_of_ble_eq_true rfl) d_X7_sizeUnsaid_72 o (Nat.le_of_ble_eq_true rfl) hV (fun r3 h2 hV => ?_)
      refine s_bipush d_X7_sizeUnsaid_75 (by decide) (okn rfl) ?_
      refine s_icmp_eq (tgt := 82) d_X7_sizeUnsaid_77 (by decide) (fun c => ?_) (fun c => ?_)
      · have hV := hV.1 c
        refine s_iload_n d_X7_sizeUnsaid_82 rfl (ma 2 rfl) ?_
        refine s_iload_n d_X7_sizeUnsaid_83 rfl (ma 4 rfl) ?_
        obtain ⟨o, hV⟩ := hV
        refine s_iadd d_X7_sizeUnsaid_84 o ?_
        refine s_nmI (fun x1_4 ex1_4 => ?_)
        have hV := hV x1_4 ex1_4
        refine s_istore_n (lv' := [(1, .inl x1_4), (4, .inl y0), (0, .inr (.inr x0)), (2, .inl x2), (3, .inl x3)]) d_X7_sizeUnsaid_85 rfl (Nat.le_of_ble_eq_true rfl) rfl ?_
        obtain ⟨o, hV⟩ := hV
        refine s_iinc (lv' := [(2, .inl (x2 + 2)), (1, .inl x1_4), (4, .inl y0), (0, .inr (.inr x0)), (3, .inl x3)]) d_X7_sizeUnsaid_86 (ma 3 rfl) o (Nat.le_of_ble_eq_true rfl) rfl ?_
        refine s_goto (tgt := 15) d_X7_sizeUnsaid_89 (by decide) ?_
        refine s_pick (lv' := [(0, .inr (.inr x0)), (1, .inl x1_4), (2, .inl (x2 + 2))]) [3, 1, 0] rfl ?_
        exact hP15 _ _ _ hV
      · have hV := hV.2 c
        refine s_iconst d_X7_sizeUnsaid_80 (okn rfl) ?_
        exact s_iret d_X7_sizeUnsaid_81 rfl rfl ⟨_, rfl, hV⟩
def J_X7_sizeUnsaid_56 (P15 : Int → Int → Hp → Prop) (x0 : Nat) (x1 : Int) (x2 : Int) (x3 : Int) (h : Hp) (Q : Int → Hp → Prop) : Prop :=
  J_X7_sizeUnsaid_57 P15 x0 x1 x2 x3 0 h Q
theorem GJ_X7_sizeUnsaid_56 {P15 : Int → Int → Hp → Prop} (x0 : Nat) (x1 : Int) (x2 : Int) (x3 : Int) (h : Hp) (Q : Int → Hp → Prop) (hP15 : ∀ (m1 : Int) (m2 : Int) (h : Hp), P15 m1 m2 h → Go i_X7_sizeUnsaid 15 [(0, .inr (.inr x0)), (1, .inl m1), (2, .inl m2)] [] h (qI Q)) (hV : J_X7_sizeUnsaid_56 P15 x0 x1 x2 x3 h Q) : Go i_X7_sizeUnsaid 56 [(0, .inr (.inr x0)), (1, .inl x1), (2, .inl x2), (3, .inl x3)] [] h (qI Q) := by
  unfold J_X7_sizeUnsaid_56 at hV
  refine s_iconst d_X7_sizeUnsaid_56 (okn rfl) ?_
  exact GJ_X7_sizeUnsaid_57 _ _ _ _ _ _ _ (by intros; apply hP15; assumption) hV
def BLp_X7_sizeUnsaid_15 (x0 : Nat) (P15 : Int → Int → Hp → Prop) (x1 : Int) (x2 : Int) (h : Hp) (Q : Int → Hp → Prop) : Prop :=
  ((-2147483648 : Int) ≤ x2 + 1 ∧ x2 + 1 ≤ (2147483647 : Int)) ∧ (hK h x0 = 2 ∧ ((hI h x0 1 ≤ x2 + 1 → (Q x1 h)) ∧ (¬ hI h x0 1 ≤ x2 + 1 → (hK h x0 = 2 ∧ C_X2_get x0 x2 h (fun r2 h1 => ((x2 ≤ 0 → (J_X7_sizeUnsaid_56 P15 x0 x1 x2 r2 h1 Q)) ∧ (¬ x2 ≤ 0 → (((-2147483648 : Int) ≤ x2 - 1 ∧ x2 - 1 ≤ (2147483647 : Int)) ∧ (hK h1 x0 = 2 ∧ C_X2_get x0 (x2 - 1) h1 (fun r4 h3 => (((-2147483648 : Int) ≤ x2 + 1 ∧ x2 + 1 ≤ (2147483647 : Int)) ∧ (hK h3 x0 = 2 ∧ C_X2_get x0 (x2 + 1) h3 (fun r6 h5 => ((r4 ≠ r6 → (J_X7_sizeUnsaid_56 P15 x0 x1 x2 r2 h5 Q)) ∧ (r4 = r6 → (J_X7_sizeUnsaid_57 P15 x0 x1 x2 r2 1 h5 Q))))))))))))))))
def Lp_X7_sizeUnsaid_15 (x0 : Nat) (x1 : Int) (x2 : Int) (h : Hp) (Q : Int → Hp → Prop) : Prop := ∀ P15 : Int → Int → Hp → Prop, (∀ (x1 : Int) (x2 : Int) (h : Hp), BLp_X7_sizeUnsaid_15 x0 P15 x1 x2 h Q → P15 x1 x2 h) → P15 x1 x2 h
theorem Lp_X7_sizeUnsaid_15_ind {x0 : Nat} {Q : Int → Hp → Prop} (I : Int → Int → Hp → Prop) (μ : Int → Int → Hp → Nat) (hs : ∀ (P15 : Int → Int → Hp → Prop) (x1 : Int) (x2 : Int) (h : Hp), I x1 x2 h → (∀ (x1' : Int) (x2' : Int) (h' : Hp), I x1' x2' h' → μ x1' x2' h' < μ x1 x2 h → P15 x1' x2' h') → BLp_X7_sizeUnsaid_15 x0 P15 x1 x2 h Q) : ∀ (x1 : Int) (x2 : Int) (h : Hp), I x1 x2 h → Lp_X7_sizeUnsaid_15 x0 x1 x2 h Q := by
  intro x1 x2 h hI P15 hP
  have key : ∀ (n : Nat) (x1 : Int) (x2 : Int) (h : Hp), I x1 x2 h → μ x1 x2 h < n → P15 x1 x2 h := by
    intro n
    induction n with
    | zero => intro x1 x2 h _ hl; exact absurd hl (Nat.not_lt_zero _)
    | succ n ih => intro x1 x2 h hi hl; exact hP x1 x2 h (hs P15 x1 x2 h hi (fun x1 x2 h' hi' hl' => ih x1 x2 h' hi' (by omega)))
  exact key _ x1 x2 h hI (Nat.lt_succ_self _)
theorem GLp_X7_sizeUnsaid_15 (x0 : Nat) (x1 : Int) (x2 : Int) (h : Hp) (Q : Int → Hp → Prop) (hV : Lp_X7_sizeUnsaid_15 x0 x1 x2 h Q) : Go i_X7_sizeUnsaid 15 [(0, .inr (.inr x0)), (1, .inl x1), (2, .inl x2)] [] h (qI Q) := by
  refine hV (fun x1 x2 h => Go i_X7_sizeUnsaid 15 [(0, .inr (.inr x0)), (1, .inl x1), (2, .inl x2)] [] h (qI Q)) (fun x1 x2 h hV => ?_)
  unfold BLp_X7_sizeUnsaid_15 at hV
  have hP15 : ∀ (x1 : Int) (x2 : Int) (h : Hp), Go i_X7_sizeUnsaid 15 [(0, .inr (.inr x0)), (1, .inl x1), (2, .inl x2)] [] h (qI Q) → Go i_X7_sizeUnsaid 15 [(0, .inr (.inr x0)), (1, .inl x1), (2, .inl x2)] [] h (qI Q) := fun _ _ h z => z
  refine s_iload_n d_X7_sizeUnsaid_15 rfl (ma 2 rfl) ?_
  refine s_iconst d_X7_sizeUnsaid_16 (okn rfl) ?_
  obtain ⟨o, hV⟩ := hV
  refine s_iadd d_X7_sizeUnsaid_17 o ?_
  refine s_aload_n d_X7_sizeUnsaid_18 rfl (ma 0 rfl) ?_
  obtain ⟨o, hV⟩ := hV
  refine f_RX7_9g rfl d_X7_sizeUnsaid_19 o ?_
  refine s_icmp_ge (tgt := 92) d_X7_sizeUnsaid_22 (by decide) (fun c => ?_) (fun c => ?_)
  · have hV := hV.1 c
    refine s_iload_n d_X7_sizeUnsaid_92 rfl (ma 1 rfl) ?_
    exact s_iret d_X7_sizeUnsaid_93 rfl rfl ⟨_, rfl, hV⟩
  · have hV := hV.2 c
    refine s_aload_n d_X7_sizeUnsaid_25 rfl (ma 0 rfl) ?_
    refine s_iload_n d_X7_sizeUnsaid_26 rfl (ma 2 rfl) ?_
    obtain ⟨o, hV⟩ := hV
    refine v_RX7_51 rfl (Nat.le_of_ble_eq_true rfl) d_X7_sizeUnsaid_27 o (Nat.le_of_ble_eq_true rfl) hV (fun r2 h1 hV => ?_)
    refine s_istore_n (lv' := [(3, .inl r2), (0, .inr (.inr x0)), (1, .inl x1), (2, .inl x2)]) d_X7_sizeUnsaid_30 rfl (Nat.le_of_ble_eq_true rfl) rfl ?_
    refine s_iload_n d_X7_sizeUnsaid_31 rfl (ma 3 rfl) ?_
    refine s_if_le (tgt := 56) d_X7_sizeUnsaid_32 (by decide) (fun c => ?_) (fun c => ?_)
    · have hV := hV.1 c
      refine s_pick (lv' := [(0, .inr (.inr x0)), (1, .inl x1), (2, .inl x2), (3, .inl r2)]) [1, 2, 3, 0] rfl ?_
      exact GJ_X7_sizeUnsaid_56 _ _ _ _ _ _ (by intros; apply hP15; assumption) hV
    · have hV := hV.2 c
      refine s_aload_n d_X7_sizeUnsaid_35 rfl (ma 1 rfl) ?_
      refine s_iload_n d_X7_sizeUnsaid_36 rfl (ma 3 rfl) ?_
      refine s_iconst d_X7_sizeUnsaid_37 (okn rfl) ?_
      obtain ⟨o, hV⟩ := hV
      refine s_isub d_X7_sizeUnsaid_38 o ?_
      obtain ⟨o, hV⟩ := hV
      refine v_RX7_51 rfl (Nat.le_of_ble_eq_true rfl) d_X7_sizeUnsaid_39 o (Nat.le_of_ble_eq_true rfl) hV (fun r4 h3 hV => ?_)
      refine s_aload_n d_X7_sizeUnsaid_42 rfl (ma 1 rfl) ?_
      refine s_iload_n d_X7_sizeUnsaid_43 rfl (ma 3 rfl) ?_
      refine s_iconst d_X7_sizeUnsaid_44 (okn rfl) ?_
      obtain ⟨o, hV⟩ := hV
      refine s_iadd d_X7_sizeUnsaid_45 o ?_
      obtain ⟨o, hV⟩ := hV
      refine v_RX7_51 rfl (Nat.le_of_ble_eq_true rfl) d_X7_sizeUnsaid_46 o (Nat.le_of_ble_eq_true rfl) hV (fun r6 h5 hV => ?_)
      refine s_icmp_ne (tgt := 56) d_X7_sizeUnsaid_49 (by decide) (fun c => ?_) (fun c => ?_)
      · have hV := hV.1 c
        refine s_pick (lv' := [(0, .inr (.inr x0)), (1, .inl x1), (2, .inl x2), (3, .inl r2)]) [1, 2, 3, 0] rfl ?_
        exact GJ_X7_sizeUnsaid_56 _ _ _ _ _ _ (by intros; apply hP15; assumption) hV
      · have hV := hV.2 c
        refine s_iconst d_X7_sizeUnsaid_52 (okn rfl) ?_
        refine s_goto (tgt := 57) d_X7_sizeUnsaid_53 (by decide) ?_
        refine s_pick (lv' := [(0, .inr (.inr x0)), (1, .inl x1), (2, .inl x2), (3, .inl r2)]) [1, 2, 3, 0] rfl ?_
        exact GJ_X7_sizeUnsaid_57 _ _ _ _ _ _ _ (by intros; apply hP15; assumption) hV
def V_X7_sizeUnsaid (x0 : Nat) (h : Hp) (Q : Int → Hp → Prop) : Prop :=
  hK h x0 = 2 ∧ (((0 : Int) ≤ hI h x0 1 ∧ (0 : Int) < 2) ∧ (((hI h x0 1) % 2 = 0 → (Lp_X7_sizeUnsaid_15 x0 0 0 h Q)) ∧ (¬ (hI h x0 1) % 2 = 0 → (Q (-1) h))))
theorem G_X7_sizeUnsaid {x0 : Nat} (h : Hp) (Q : Int → Hp → Prop) (hV : V_X7_sizeUnsaid x0 h Q) : C_X7_sizeUnsaid x0 h Q := by
  unfold V_X7_sizeUnsaid at hV
  show Go i_X7_sizeUnsaid 0 [(0, .inr (.inr x0))] [] h (qI Q)
  refine s_aload_n d_X7_sizeUnsaid_0 rfl (ma 0 rfl) ?_
  obtain ⟨o, hV⟩ := hV
  refine f_RX7_9g rfl d_X7_sizeUnsaid_1 o ?_
  refine s_iconst d_X7_sizeUnsaid_4 (okn rfl) ?_
  obtain ⟨o, hV⟩ := hV
  refine s_irem d_X7_sizeUnsaid_5 o.1 o.2 ?_
  refine s_if_eq (tgt := 11) d_X7_sizeUnsaid_6 (by decide) (fun c => ?_) (fun c => ?_)
  · have hV := hV.1 c
    refine s_iconst d_X7_sizeUnsaid_11 (okn rfl) ?_
    refine s_istore_n (lv' := [(1, .inl 0), (0, .inr (.inr x0))]) d_X7_sizeUnsaid_12 rfl (Nat.le_of_ble_eq_true rfl) rfl ?_
    refine s_iconst d_X7_sizeUnsaid_13 (okn rfl) ?_
    refine s_istore_n (lv' := [(2, .inl 0), (1, .inl 0), (0, .inr (.inr x0))]) d_X7_sizeUnsaid_14 rfl (Nat.le_of_ble_eq_true rfl) rfl ?_
    refine s_pick (lv' := [(0, .inr (.inr x0)), (1, .inl 0), (2, .inl 0)]) [2, 1, 0] rfl ?_
    exact GLp_X7_sizeUnsaid_15 _ _ _ _ _ hV
  · have hV := hV.2 c
    refine s_iconst d_X7_sizeUnsaid_9 (okn rfl) ?_
    exact s_iret d_X7_sizeUnsaid_10 rfl rfl ⟨_, rfl, hV⟩

theorem d_X7_unsay_0 : decode i_X7_unsay.2.1 0 = .ok (.aload_n 1, 1) := by decide +kernel
theorem d_X7_unsay_1 : decode i_X7_unsay.2.1 1 = .ok (.bipush 60, 2) := by decide +kernel
theorem d_X7_unsay_3 : decode i_X7_unsay.2.1 3 = .ok (.invokevirtual 15, 3) := by decide +kernel
theorem d_X7_unsay_6 : decode i_X7_unsay.2.1 6 = .ok (.iconst 0, 1) := by decide +kernel
theorem d_X7_unsay_7 : decode i_X7_unsay.2.1 7 = .ok (.istore_n 2, 1) := by decide +kernel
theorem d_X7_unsay_8 : decode i_X7_unsay.2.1 8 = .ok (.iload_n 2, 1) := by decide +kernel
theorem d_X7_unsay_9 : decode i_X7_unsay.2.1 9 = .ok (.iconst 1, 1) := by decide +kernel
theorem d_X7_unsay_10 : decode i_X7_unsay.2.1 10 = .ok (.iadd, 1) := by decide +kernel
theorem d_X7_unsay_11 : decode i_X7_unsay.2.1 11 = .ok (.aload_n 0, 1) := by decide +kernel
theorem d_X7_unsay_12 : decode i_X7_unsay.2.1 12 = .ok (.getfield 9, 3) := by decide +kernel
theorem d_X7_unsay_15 : decode i_X7_unsay.2.1 15 = .ok (.if_icmp .ge 37, 3) := by decide +kernel
theorem d_X7_unsay_18 : decode i_X7_unsay.2.1 18 = .ok (.aload_n 0, 1) := by decide +kernel
theorem d_X7_unsay_19 : decode i_X7_unsay.2.1 19 = .ok (.iload_n 2, 1) := by decide +kernel
theorem d_X7_unsay_20 : decode i_X7_unsay.2.1 20 = .ok (.invokevirtual 51, 3) := by decide +kernel
theorem d_X7_unsay_23 : decode i_X7_unsay.2.1 23 = .ok (.istore_n 3, 1) := by decide +kernel
theorem d_X7_unsay_24 : decode i_X7_unsay.2.1 24 = .ok (.iload_n 3, 1) := by decide +kernel
theorem d_X7_unsay_25 : decode i_X7_unsay.2.1 25 = .ok (.ifCond .le 21, 3) := by decide +kernel
theorem d_X7_unsay_28 : decode i_X7_unsay.2.1 28 = .ok (.aload_n 1, 1) := by decide +kernel
theorem d_X7_unsay_29 : decode i_X7_unsay.2.1 29 = .ok (.aload_n 0, 1) := by decide +kernel
theorem d_X7_unsay_30 : decode i_X7_unsay.2.1 30 = .ok (.iload_n 2, 1) := by decide +kernel
theorem d_X7_unsay_31 : decode i_X7_unsay.2.1 31 = .ok (.iconst 1, 1) := by decide +kernel
theorem d_X7_unsay_32 : decode i_X7_unsay.2.1 32 = .ok (.iadd, 1) := by decide +kernel
theorem d_X7_unsay_33 : decode i_X7_unsay.2.1 33 = .ok (.invokevirtual 51, 3) := by decide +kernel
theorem d_X7_unsay_36 : decode i_X7_unsay.2.1 36 = .ok (.invokevirtual 47, 3) := by decide +kernel
theorem d_X7_unsay_39 : decode i_X7_unsay.2.1 39 = .ok (.pop, 1) := by decide +kernel
theorem d_X7_unsay_40 : decode i_X7_unsay.2.1 40 = .ok (.iinc 3 (-1), 3) := by decide +kernel
theorem d_X7_unsay_43 : decode i_X7_unsay.2.1 43 = .ok (.goto (-19), 3) := by decide +kernel
theorem d_X7_unsay_46 : decode i_X7_unsay.2.1 46 = .ok (.iinc 2 2, 3) := by decide +kernel
theorem d_X7_unsay_49 : decode i_X7_unsay.2.1 49 = .ok (.goto (-41), 3) := by decide +kernel
theorem d_X7_unsay_52 : decode i_X7_unsay.2.1 52 = .ok (.return_, 1) := by decide +kernel
def BLp_X7_unsay_24 (P8 : Int → Hp → Prop) (x0 : Nat) (x1 : Nat) (x2 : Int) (P24 : Int → Hp → Prop) (x3 : Int) (h : Hp) (Q : Hp → Prop) : Prop :=
  (x3 ≤ 0 → (((-2147483648 : Int) ≤ x2 + 2 ∧ x2 + 2 ≤ (2147483647 : Int)) ∧ (P8 (x2 + 2) h))) ∧ (¬ x3 ≤ 0 → (((-2147483648 : Int) ≤ x2 + 1 ∧ x2 + 1 ≤ (2147483647 : Int)) ∧ (hK h x0 = 2 ∧ C_X2_get x0 (x2 + 1) h (fun r2 h1 => (hK h1 x1 = 2 ∧ C_X2_add x1 r2 h1 (fun r4 h3 => (((-2147483648 : Int) ≤ x3 + (-1) ∧ x3 + (-1) ≤ (2147483647 : Int)) ∧ (P24 (x3 + (-1)) h3))))))))
def Lp_X7_unsay_24 (P8 : Int → Hp → Prop) (x0 : Nat) (x1 : Nat) (x2 : Int) (x3 : Int) (h : Hp) (Q : Hp → Prop) : Prop := ∀ P24 : Int → Hp → Prop, (∀ (x3 : Int) (h : Hp), BLp_X7_unsay_24 P8 x0 x1 x2 P24 x3 h Q → P24 x3 h) → P24 x3 h
theorem Lp_X7_unsay_24_ind {P8 : Int → Hp → Prop} {x0 : Nat} {x1 : Nat} {x2 : Int} {Q : Hp → Prop} (I : Int → Hp → Prop) (μ : Int → Hp → Nat) (hs : ∀ (P24 : Int → Hp → Prop) (x3 : Int) (h : Hp), I x3 h → (∀ (x3' : Int) (h' : Hp), I x3' h' → μ x3' h' < μ x3 h → P24 x3' h') → BLp_X7_unsay_24 P8 x0 x1 x2 P24 x3 h Q) : ∀ (x3 : Int) (h : Hp), I x3 h → Lp_X7_unsay_24 P8 x0 x1 x2 x3 h Q := by
  intro x3 h hI P24 hP
  have key : ∀ (n : Nat) (x3 : Int) (h : Hp), I x3 h → μ x3 h < n → P24 x3 h := by
    intro n
    induction n with
    | zero => intro x3 h _ hl; exact absurd hl (Nat.not_lt_zero _)
    | succ n ih => intro x3 h hi hl; exact hP x3 h (hs P24 x3 h hi (fun x3 h' hi' hl' => ih x3 h' hi' (by omega)))
  exact key _ x3 h hI (Nat.lt_succ_self _)
theorem GLp_X7_unsay_24 {P8 : Int → Hp → Prop} (x0 : Nat) (x1 : Nat) (x2 : Int) (x3 : Int) (h : Hp) (Q : Hp → Prop) (hP8 : ∀ (m2 : Int) (h : Hp), P8 m2 h → Go i_X7_unsay 8 [(0, .inr (.inr x0)), (1, .inr (.inr x1)), (2, .inl m2)] [] h (qV Q)) (hV : Lp_X7_unsay_24 P8 x0 x1 x2 x3 h Q) : Go i_X7_unsay 24 [(0, .inr (.inr x0)), (1, .inr (.inr x1)), (2, .inl x2), (3, .inl x3)] [] h (qV Q) := by
  refine hV (fun x3 h => Go i_X7_unsay 24 [(0, .inr (.inr x0)), (1, .inr (.inr x1)), (2, .inl x2), (3, .inl x3)] [] h (qV Q)) (fun x3 h hV => ?_)
  unfold BLp_X7_unsay_24 at hV
  have hP24 : ∀ (x3 : Int) (h : Hp), Go i_X7_unsay 24 [(0, .inr (.inr x0)), (1, .inr (.inr x1)), (2, .inl x2), (3, .inl x3)] [] h (qV Q) → Go i_X7_unsay 24 [(0, .inr (.inr x0)), (1, .inr (.inr x1)), (2, .inl x2), (3, .inl x3)] [] h (qV Q) := fun _ h z => z
  refine s_iload_n d_X7_unsay_24 rfl (ma 3 rfl) ?_
  refine s_if_le (tgt := 46) d_X7_unsay_25 (by decide) (fun c => ?_) (fun c => ?_)
  · have hV := hV.1 c
    obtain ⟨o, hV⟩ := hV
    refine s_iinc (lv' := [(2, .inl (x2 + 2)), (0, .inr (.inr x0)), (1, .inr (.inr x1)), (3, .inl x3)]) d_X7_unsay_46 (ma 2 rfl) o (Nat.le_of_ble_eq_true rfl) rfl ?_
    refine s_goto (tgt := 8) d_X7_unsay_49 (by decide) ?_
    refine s_pick (lv' := [(0, .inr (.inr x0)), (1, .inr (.inr x1)), (2, .inl (x2 + 2))]) [1, 2, 0] rfl ?_
    exact hP8 _ _ hV
  · have hV := hV.2 c
    refine s_aload_n d_X7_unsay_28 rfl (ma 1 rfl) ?_
    refine s_aload_n d_X7_unsay_29 rfl (ma 0 rfl) ?_
    refine s_iload_n d_X7_unsay_30 rfl (ma 2 rfl) ?_
    refine s_iconst d_X7_unsay_31 (okn rfl) ?_
    obtain ⟨o, hV⟩ := hV
    refine s_iadd d_X7_unsay_32 o ?_
    obtain ⟨o, hV⟩ := hV
    refine v_RX7_51 rfl (Nat.le_of_ble_eq_true rfl) d_X7_unsay_33 o (Nat.le_of_ble_eq_true rfl) hV (fun r2 h1 hV => ?_)
    obtain ⟨o, hV⟩ := hV
    refine v_RX7_47 rfl (Nat.le_of_ble_eq_true rfl) d_X7_unsay_36 o (Nat.le_of_ble_eq_true rfl) hV (fun r4 h3 hV => ?_)
    refine s_pop d_X7_unsay_39 rfl ?_
    obtain ⟨o, hV⟩ := hV
    refine s_iinc (lv' := [(3, .inl (x3 + (-1))), (0, .inr (.inr x0)), (1, .inr (.inr x1)), (2, .inl x2)]) d_X7_unsay_40 (ma 3 rfl) o (Nat.le_of_ble_eq_true rfl) rfl ?_
    refine s_goto (tgt := 24) d_X7_unsay_43 (by decide) ?_
    refine s_pick (lv' := [(0, .inr (.inr x0)), (1, .inr (.inr x1)), (2, .inl x2), (3, .inl (x3 + (-1)))]) [1, 2, 3, 0] rfl ?_
    exact hP24 _ _ hV
def BLp_X7_unsay_8 (x0 : Nat) (x1 : Nat) (P8 : Int → Hp → Prop) (x2 : Int) (h : Hp) (Q : Hp → Prop) : Prop :=
  ((-2147483648 : Int) ≤ x2 + 1 ∧ x2 + 1 ≤ (2147483647 : Int)) ∧ (hK h x0 = 2 ∧ ((hI h x0 1 ≤ x2 + 1 → (Q h)) ∧ (¬ hI h x0 1 ≤ x2 + 1 → (hK h x0 = 2 ∧ C_X2_get x0 x2 h (fun r2 h1 => (Lp_X7_unsay_24 P8 x0 x1 x2 r2 h1 Q))))))
def Lp_X7_unsay_8 (x0 : Nat) (x1 : Nat) (x2 : Int) (h : Hp) (Q : Hp → Prop) : Prop := ∀ P8 : Int → Hp → Prop, (∀ (x2 : Int) (h : Hp), BLp_X7_unsay_8 x0 x1 P8 x2 h Q → P8 x2 h) → P8 x2 h
theorem Lp_X7_unsay_8_ind {x0 : Nat} {x1 : Nat} {Q : Hp → Prop} (I : Int → Hp → Prop) (μ : Int → Hp → Nat) (hs : ∀ (P8 : Int → Hp → Prop) (x2 : Int) (h : Hp), I x2 h → (∀ (x2' : Int) (h' : Hp), I x2' h' → μ x2' h' < μ x2 h → P8 x2' h') → BLp_X7_unsay_8 x0 x1 P8 x2 h Q) : ∀ (x2 : Int) (h : Hp), I x2 h → Lp_X7_unsay_8 x0 x1 x2 h Q := by
  intro x2 h hI P8 hP
  have key : ∀ (n : Nat) (x2 : Int) (h : Hp), I x2 h → μ x2 h < n → P8 x2 h := by
    intro n
    induction n with
    | zero => intro x2 h _ hl; exact absurd hl (Nat.not_lt_zero _)
    | succ n ih => intro x2 h hi hl; exact hP x2 h (hs P8 x2 h hi (fun x2 h' hi' hl' => ih x2 h' hi' (by omega)))
  exact key _ x2 h hI (Nat.lt_succ_self _)
theorem GLp_X7_unsay_8 (x0 : Nat) (x1 : Nat) (x2 : Int) (h : Hp) (Q : Hp → Prop) (hV : Lp_X7_unsay_8 x0 x1 x2 h Q) : Go i_X7_unsay 8 [(0, .inr (.inr x0)), (1, .inr (.inr x1)), (2, .inl x2)] [] h (qV Q) := by
  refine hV (fun x2 h => Go i_X7_unsay 8 [(0, .inr (.inr x0)), (1, .inr (.inr x1)), (2, .inl x2)] [] h (qV Q)) (fun x2 h hV => ?_)
  unfold BLp_X7_unsay_8 at hV
  have hP8 : ∀ (x2 : Int) (h : Hp), Go i_X7_unsay 8 [(0, .inr (.inr x0)), (1, .inr (.inr x1)), (2, .inl x2)] [] h (qV Q) → Go i_X7_unsay 8 [(0, .inr (.inr x0)), (1, .inr (.inr x1)), (2, .inl x2)] [] h (qV Q) := fun _ h z => z
  refine s_iload_n d_X7_unsay_8 rfl (ma 2 rfl) ?_
  refine s_iconst d_X7_unsay_9 (okn rfl) ?_
  obtain ⟨o, hV⟩ := hV
  refine s_iadd d_X7_unsay_10 o ?_
  refine s_aload_n d_X7_unsay_11 rfl (ma 0 rfl) ?_
  obtain ⟨o, hV⟩ := hV
  refine f_RX7_9g rfl d_X7_unsay_12 o ?_
  refine s_icmp_ge (tgt := 52) d_X7_unsay_15 (by decide) (fun c => ?_) (fun c => ?_)
  · have hV := hV.1 c
    exact s_vret d_X7_unsay_52 rfl ⟨rfl, hV⟩
  · have hV := hV.2 c
    refine s_aload_n d_X7_unsay_18 rfl (ma 0 rfl) ?_
    refine s_iload_n d_X7_unsay_19 rfl (ma 2 rfl) ?_
    obtain ⟨o, hV⟩ := hV
    refine v_RX7_51 rfl (Nat.le_of_ble_eq_true rfl) d_X7_unsay_20 o (Nat.le_of_ble_eq_true rfl) hV (fun r2 h1 hV => ?_)
    refine s_istore_n (lv' := [(3, .inl r2), (0, .inr (.inr x0)), (1, .inr (.inr x1)), (2, .inl x2)]) d_X7_unsay_23 rfl (Nat.le_of_ble_eq_true rfl) rfl ?_
    refine s_pick (lv' := [(0, .inr (.inr x0)), (1, .inr (.inr x1)), (2, .inl x2), (3, .inl r2)]) [1, 2, 3, 0] rfl ?_
    exact GLp_X7_unsay_24 _ _ _ _ _ _ (by intros; apply hP8; assumption) hV
def V_X7_unsay (x0 : Nat) (x1 : Nat) (h : Hp) (Q : Hp → Prop) : Prop :=
  hK h x1 = 2 ∧ C_X2_startOver x1 60 h (fun h1 => (Lp_X7_unsay_8 x0 x1 0 h1 Q))
theorem G_X7_unsay {x0 : Nat} {x1 : Nat} (h : Hp) (Q : Hp → Prop) (hV : V_X7_unsay x0 x1 h Q) : C_X7_unsay x0 x1 h Q := by
  unfold V_X7_unsay at hV
  show Go i_X7_unsay 0 [(0, .inr (.inr x0)), (1, .inr (.inr x1))] [] h (qV Q)
  refine s_aload_n d_X7_unsay_0 rfl (ma 1 rfl) ?_
  refine s_bipush d_X7_unsay_1 (by decide) (okn rfl) ?_
  obtain ⟨o, hV⟩ := hV
  refine v_RX7_15 rfl (Nat.le_of_ble_eq_true rfl) d_X7_unsay_3 o (Nat.le_of_ble_eq_true rfl) hV (fun h1 hV => ?_)
  refine s_iconst d_X7_unsay_6 (okn rfl) ?_
  refine s_istore_n (lv' := [(2, .inl 0), (0, .inr (.inr x0)), (1, .inr (.inr x1))]) d_X7_unsay_7 rfl (Nat.le_of_ble_eq_true rfl) rfl ?_
  refine s_pick (lv' := [(0, .inr (.inr x0)), (1, .inr (.inr x1)), (2, .inl 0)]) [1, 2, 0] rfl ?_
  exact GLp_X7_unsay_8 _ _ _ _ _ hV

theorem d_X8_init_0 : decode i_X8_init.2.1 0 = .ok (.aload_n 0, 1) := by decide +kernel
theorem d_X8_init_1 : decode i_X8_init.2.1 1 = .ok (.invokespecial 3, 3) := by decide +kernel
theorem d_X8_init_4 : decode i_X8_init.2.1 4 = .ok (.aload_n 0, 1) := by decide +kernel
theorem d_X8_init_5 : decode i_X8_init.2.1 5 = .ok (.new 9, 3) := by decide +kernel
theorem d_X8_init_8 : decode i_X8_init.2.1 8 = .ok (.dup, 1) := by decide +kernel
theorem d_X8_init_9 : decode i_X8_init.2.1 9 = .ok (.bipush 60, 2) := by decide +kernel
theorem d_X8_init_11 : decode i_X8_init.2.1 11 = .ok (.invokespecial 11, 3) := by decide +kernel
theorem d_X8_init_14 : decode i_X8_init.2.1 14 = .ok (.putfield 14, 3) := by decide +kernel
theorem d_X8_init_17 : decode i_X8_init.2.1 17 = .ok (.aload_n 0, 1) := by decide +kernel
theorem d_X8_init_18 : decode i_X8_init.2.1 18 = .ok (.bipush 20, 2) := by decide +kernel
theorem d_X8_init_20 : decode i_X8_init.2.1 20 = .ok (.newarray .byte, 2) := by decide +kernel
theorem d_X8_init_22 : decode i_X8_init.2.1 22 = .ok (.putfield 20, 3) := by decide +kernel
theorem d_X8_init_25 : decode i_X8_init.2.1 25 = .ok (.aload_n 0, 1) := by decide +kernel
theorem d_X8_init_26 : decode i_X8_init.2.1 26 = .ok (.bipush 20, 2) := by decide +kernel
theorem d_X8_init_28 : decode i_X8_init.2.1 28 = .ok (.newarray .byte, 2) := by decide +kernel
theorem d_X8_init_30 : decode i_X8_init.2.1 30 = .ok (.putfield 24, 3) := by decide +kernel
theorem d_X8_init_33 : decode i_X8_init.2.1 33 = .ok (.return_, 1) := by decide +kernel
def V_X8_init (x0 : Nat) (h : Hp) (Q : Hp → Prop) : Prop :=
  hK h x0 = 7 ∧ (∀ n1 : Nat, n1 = hN h → ∀ h2 : Hp, h2 = al h 2 0 2 → (hK h2 n1 = 2 ∧ C_X2_init n1 60 h2 (fun h3 => (hK h3 x0 = 7 ∧ ∀ h4 : Hp, h4 = wR h3 x0 0 n1 → (((0 : Int) ≤ 20 ∧ 20 ≤ (100000000 : Int)) ∧ ∀ n5 : Nat, n5 = hN h4 → ∀ h6 : Hp, h6 = al h4 13 20 (Int.toNat 20) → (hK h6 x0 = 7 ∧ ∀ h7 : Hp, h7 = wR h6 x0 1 n5 → (((0 : Int) ≤ 20 ∧ 20 ≤ (100000000 : Int)) ∧ ∀ n8 : Nat, n8 = hN h7 → ∀ h9 : Hp, h9 = al h7 13 20 (Int.toNat 20) → (hK h9 x0 = 7 ∧ ∀ h10 : Hp, h10 = wR h9 x0 2 n8 → (Q h10)))))))))
theorem G_X8_init {x0 : Nat} (h : Hp) (Q : Hp → Prop) (hV : V_X8_init x0 h Q) : C_X8_init x0 h Q := by
  unfold V_X8_init at hV
  show Go i_X8_init 0 [(0, .inr (.inr x0))] [] h (qV Q)
  refine s_aload_n d_X8_init_0 rfl (ma 0 rfl) ?_
  obtain ⟨o, hV⟩ := hV
  refine s_objInit d_X8_init_1 ob_RX8_3 (Nat.le_of_ble_eq_true rfl) rfl (by rw [o]; decide) ?_
  refine s_aload_n d_X8_init_4 rfl (ma 0 rfl) ?_
  refine s_new (ci := 2) d_X8_init_5 rfl q_RX8_9 ?_
  refine s_nmA (fun n1 en1 => ?_)
  refine s_nmH (fun h2 eh2 => ?_)
  have hV := hV n1 en1 h2 eh2
  refine s_dup d_X8_init_8 rfl ?_
  refine s_bipush d_X8_init_9 (by decide) (okn rfl) ?_
  obtain ⟨o, hV⟩ := hV
  refine v_RX8_11 rfl (Nat.le_of_ble_eq_true rfl) d_X8_init_11 o (Nat.le_of_ble_eq_true rfl) hV (fun h3 hV => ?_)
  obtain ⟨o, hV⟩ := hV
  refine f_RX8_14p rfl rfl d_X8_init_14 o (fun h4 eh4 => ?_)
  have hV := hV h4 eh4
  refine s_aload_n d_X8_init_17 rfl (ma 0 rfl) ?_
  refine s_bipush d_X8_init_18 (by decide) (okn rfl) ?_
  obtain ⟨o, hV⟩ := hV
  refine s_newb d_X8_init_20 ac_byte o.1 o.2 ?_
  refine s_nmA (fun n5 en5 => ?_)
  refine s_nmH (fun h6 eh6 => ?_)
  have hV := hV n5 en5 h6 eh6
  obtain ⟨o, hV⟩ := hV
  refine f_RX8_20p rfl rfl d_X8_init_22 o (fun h7 eh7 => ?_)
  have hV := hV h7 eh7
  refine s_aload_n d_X8_init_25 rfl (ma 0 rfl) ?_
  refine s_bipush d_X8_init_26 (by decide) (okn rfl) ?_
  obtain ⟨o, hV⟩ := hV
  refine s_newb d_X8_init_28 ac_byte o.1 o.2 ?_
  refine s_nmA (fun n8 en8 => ?_)
  refine s_nmH (fun h9 eh9 => ?_)
  have hV := hV n8 en8 h9 eh9
  obtain ⟨o, hV⟩ := hV
  refine f_RX8_24p rfl rfl d_X8_init_30 o (fun h10 eh10 => ?_)
  have hV := hV h10 eh10
  exact s_vret d_X8_init_33 rfl ⟨rfl, hV⟩

theorem d_X8_begin_0 : decode i_X8_begin.2.1 0 = .ok (.aload_n 0, 1) := by decide +kernel
theorem d_X8_begin_1 : decode i_X8_begin.2.1 1 = .ok (.getfield 14, 3) := by decide +kernel
theorem d_X8_begin_4 : decode i_X8_begin.2.1 4 = .ok (.aload_n 1, 1) := by decide +kernel
theorem d_X8_begin_5 : decode i_X8_begin.2.1 5 = .ok (.invokevirtual 27, 3) := by decide +kernel
theorem d_X8_begin_8 : decode i_X8_begin.2.1 8 = .ok (.aload_n 0, 1) := by decide +kernel
theorem d_X8_begin_9 : decode i_X8_begin.2.1 9 = .ok (.iconst 0, 1) := by decide +kernel
theorem d_X8_begin_10 : decode i_X8_begin.2.1 10 = .ok (.putfield 31, 3) := by decide +kernel
theorem d_X8_begin_13 : decode i_X8_begin.2.1 13 = .ok (.aload_n 0, 1) := by decide +kernel
theorem d_X8_begin_14 : decode i_X8_begin.2.1 14 = .ok (.iconst 0, 1) := by decide +kernel
theorem d_X8_begin_15 : decode i_X8_begin.2.1 15 = .ok (.putfield 35, 3) := by decide +kernel
theorem d_X8_begin_18 : decode i_X8_begin.2.1 18 = .ok (.return_, 1) := by decide +kernel
def V_X8_begin (x0 : Nat) (x1 : Nat) (h : Hp) (Q : Hp → Prop) : Prop :=
  hK h x0 = 7 ∧ (hK h (hR h x0 0) = 2 ∧ C_X2_copyFrom (hR h x0 0) x1 h (fun h1 => (hK h1 x0 = 7 ∧ ∀ h2 : Hp, h2 = wI h1 x0 3 0 → (hK h2 x0 = 7 ∧ ∀ h3 : Hp, h3 = wI h2 x0 4 0 → (Q h3)))))
theorem G_X8_begin {x0 : Nat} {x1 : Nat} (h : Hp) (Q : Hp → Prop) (hV : V_X8_begin x0 x1 h Q) : C_X8_begin x0 x1 h Q := by
  unfold V_X8_begin at hV
  show Go i_X8_begin 0 [(0, .inr (.inr x0)), (1, .inr (.inr x1))] [] h (qV Q)
  refine s_aload_n d_X8_begin_0 rfl (ma 0 rfl) ?_
  obtain ⟨o, hV⟩ := hV
  refine f_RX8_14g rfl d_X8_begin_1 o ?_
  refine s_aload_n d_X8_begin_4 rfl (ma 1 rfl) ?_
  obtain ⟨o, hV⟩ := hV
  refine v_RX8_27 rfl (Nat.le_of_ble_eq_true rfl) d_X8_begin_5 o (Nat.le_of_ble_eq_true rfl) hV (fun h1 hV => ?_)
  refine s_aload_n d_X8_begin_8 rfl (ma 0 rfl) ?_
  refine s_iconst d_X8_begin_9 (okn rfl) ?_
  obtain ⟨o, hV⟩ := hV
  refine f_RX8_31p rfl d_X8_begin_10 o (fun h2 eh2 => ?_)
  have hV := hV h2 eh2
  refine s_aload_n d_X8_begin_13 rfl (ma 0 rfl) ?_
  refine s_iconst d_X8_begin_14 (okn rfl) ?_
  obtain ⟨o, hV⟩ := hV
  refine f_RX8_35p rfl d_X8_begin_15 o (fun h3 eh3 => ?_)
  have hV := hV h3 eh3
  exact s_vret d_X8_begin_18 rfl ⟨rfl, hV⟩

theorem d_X8_copyFrom_0 : decode i_X8_copyFrom.2.1 0 = .ok (.aload_n 0, 1) := by decide +kernel
theorem d_X8_copyFrom_1 : decode i_X8_copyFrom.2.1 1 = .ok (.getfield 14, 3) := by decide +kernel
theorem d_X8_copyFrom_4 : decode i_X8_copyFrom.2.1 4 = .ok (.aload_n 1, 1) := by decide +kernel
theorem d_X8_copyFrom_5 : decode i_X8_copyFrom.2.1 5 = .ok (.getfield 14, 3) := by decide +kernel
theorem d_X8_copyFrom_8 : decode i_X8_copyFrom.2.1 8 = .ok (.invokevirtual 27, 3) := by decide +kernel
theorem d_X8_copyFrom_11 : decode i_X8_copyFrom.2.1 11 = .ok (.aload_n 1, 1) := by decide +kernel
theorem d_X8_copyFrom_12 : decode i_X8_copyFrom.2.1 12 = .ok (.getfield 20, 3) := by decide +kernel
theorem d_X8_copyFrom_15 : decode i_X8_copyFrom.2.1 15 = .ok (.iconst 0, 1) := by decide +kernel
theorem d_X8_copyFrom_16 : decode i_X8_copyFrom.2.1 16 = .ok (.aload_n 0, 1) := by decide +kernel
theorem d_X8_copyFrom_17 : decode i_X8_copyFrom.2.1 17 = .ok (.getfield 20, 3) := by decide +kernel
theorem d_X8_copyFrom_20 : decode i_X8_copyFrom.2.1 20 = .ok (.iconst 0, 1) := by decide +kernel
theorem d_X8_copyFrom_21 : decode i_X8_copyFrom.2.1 21 = .ok (.bipush 20, 2) := by decide +kernel
theorem d_X8_copyFrom_23 : decode i_X8_copyFrom.2.1 23 = .ok (.invokestatic 38, 3) := by decide +kernel
theorem d_X8_copyFrom_26 : decode i_X8_copyFrom.2.1 26 = .ok (.aload_n 1, 1) := by decide +kernel
theorem d_X8_copyFrom_27 : decode i_X8_copyFrom.2.1 27 = .ok (.getfield 24, 3) := by decide +kernel
theorem d_X8_copyFrom_30 : decode i_X8_copyFrom.2.1 30 = .ok (.iconst 0, 1) := by decide +kernel
theorem d_X8_copyFrom_31 : decode i_X8_copyFrom.2.1 31 = .ok (.aload_n 0, 1) := by decide +kernel
theorem d_X8_copyFrom_32 : decode i_X8_copyFrom.2.1 32 = .ok (.getfield 24, 3) := by decide +kernel
theorem d_X8_copyFrom_35 : decode i_X8_copyFrom.2.1 35 = .ok (.iconst 0, 1) := by decide +kernel
theorem d_X8_copyFrom_36 : decode i_X8_copyFrom.2.1 36 = .ok (.bipush 20, 2) := by decide +kernel
theorem d_X8_copyFrom_38 : decode i_X8_copyFrom.2.1 38 = .ok (.invokestatic 38, 3) := by decide +kernel
theorem d_X8_copyFrom_41 : decode i_X8_copyFrom.2.1 41 = .ok (.aload_n 0, 1) := by decide +kernel
theorem d_X8_copyFrom_42 : decode i_X8_copyFrom.2.1 42 = .ok (.aload_n 1, 1) := by decide +kernel
theorem d_X8_copyFrom_43 : decode i_X8_copyFrom.2.1 43 = .ok (.getfield 31, 3) := by decide +kernel
theorem d_X8_copyFrom_46 : decode i_X8_copyFrom.2.1 46 = .ok (.putfield 31, 3) := by decide +kernel
theorem d_X8_copyFrom_49 : decode i_X8_copyFrom.2.1 49 = .ok (.aload_n 0, 1) := by decide +kernel
theorem d_X8_copyFrom_50 : decode i_X8_copyFrom.2.1 50 = .ok (.aload_n 1, 1) := by decide +kernel
theorem d_X8_copyFrom_51 : decode i_X8_copyFrom.2.1 51 = .ok (.getfield 35, 3) := by decide +kernel
theorem d_X8_copyFrom_54 : decode i_X8_copyFrom.2.1 54 = .ok (.putfield 35, 3) := by decide +kernel
theorem d_X8_copyFrom_57 : decode i_X8_copyFrom.2.1 57 = .ok (.return_, 1) := by decide +kernel
def V_X8_copyFrom (x0 : Nat) (x1 : Nat) (h : Hp) (Q : Hp → Prop) : Prop :=
  hK h x0 = 7 ∧ (hK h x1 = 7 ∧ (hK h (hR h x0 0) = 2 ∧ C_X2_copyFrom (hR h x0 0) (hR h x1 0) h (fun h1 => (hK h1 x1 = 7 ∧ (hK h1 x0 = 7 ∧ ((hK h1 (hR h1 x1 1) = 13 ∧ hK h1 (hR h1 x0 1) = 13 ∧ (0 : Int) ≤ 0 ∧ (0 : Int) ≤ 0 ∧ (0 : Int) ≤ 20 ∧ 0 + 20 ≤ hL h1 (hR h1 x1 1) ∧ 0 + 20 ≤ hL h1 (hR h1 x0 1)) ∧ ∀ h2 : Hp, h2 = cpI h1 (hR h1 x1 1) 0 (hR h1 x0 1) 0 20 → (hK h2 x1 = 7 ∧ (hK h2 x0 = 7 ∧ ((hK h2 (hR h2 x1 2) = 13 ∧ hK h2 (hR h2 x0 2) = 13 ∧ (0 : Int) ≤ 0 ∧ (0 : Int) ≤ 0 ∧ (0 : Int) ≤ 20 ∧ 0 + 20 ≤ hL h2 (hR h2 x1 2) ∧ 0 + 20 ≤ hL h2 (hR h2 x0 2)) ∧ ∀ h3 : Hp, h3 = cpI h2 (hR h2 x1 2) 0 (hR h2 x0 2) 0 20 → (hK h3 x1 = 7 ∧ (hK h3 x0 = 7 ∧ ∀ h4 : Hp, h4 = wI h3 x0 3 (hI h3 x1 3) → (hK h4 x1 = 7 ∧ (hK h4 x0 = 7 ∧ ∀ h5 : Hp, h5 = wI h4 x0 4 (hI h4 x1 4) → (Q h5))))))))))))))
theorem G_X8_copyFrom {x0 : Nat} {x1 : Nat} (h : Hp) (Q : Hp → Prop) (hV : V_X8_copyFrom x0 x1 h Q) : C_X8_copyFrom x0 x1 h Q := by
  unfold V_X8_copyFrom at hV
  show Go i_X8_copyFrom 0 [(0, .inr (.inr x0)), (1, .inr (.inr x1))] [] h (qV Q)
  refine s_aload_n d_X8_copyFrom_0 rfl (ma 0 rfl) ?_
  obtain ⟨o, hV⟩ := hV
  refine f_RX8_14g rfl d_X8_copyFrom_1 o ?_
  refine s_aload_n d_X8_copyFrom_4 rfl (ma 1 rfl) ?_
  obtain ⟨o, hV⟩ := hV
  refine f_RX8_14g rfl d_X8_copyFrom_5 o ?_
  obtain ⟨o, hV⟩ := hV
  refine v_RX8_27 rfl (Nat.le_of_ble_eq_true rfl) d_X8_copyFrom_8 o (Nat.le_of_ble_eq_true rfl) hV (fun h1 hV => ?_)
  refine s_aload_n d_X8_copyFrom_11 rfl (ma 1 rfl) ?_
  obtain ⟨o, hV⟩ := hV
  refine f_RX8_20g rfl d_X8_copyFrom_12 o ?_
  refine s_iconst d_X8_copyFrom_15 (okn rfl) ?_
  refine s_aload_n d_X8_copyFrom_16 rfl (ma 0 rfl) ?_
  obtain ⟨o, hV⟩ := hV
  refine f_RX8_20g rfl d_X8_copyFrom_17 o ?_
  refine s_iconst d_X8_copyFrom_20 (okn rfl) ?_
  refine s_bipush d_X8_copyFrom_21 (by decide) (okn rfl) ?_
  obtain ⟨o, hV⟩ := hV
  refine s_acpy d_X8_copyFrom_23 sy_RX8_38 sy_nat sy_sta sy_ini (Nat.le_of_ble_eq_true rfl) rfl o.1 o.2.1 o.2.2.1 o.2.2.2.1 o.2.2.2.2.1 o.2.2.2.2.2.1 o.2.2.2.2.2.2 ?_
  refine s_nmH (fun h2 eh2 => ?_)
  have hV := hV h2 eh2
  refine s_aload_n d_X8_copyFrom_26 rfl (ma 1 rfl) ?_
  obtain ⟨o, hV⟩ := hV
  refine f_RX8_24g rfl d_X8_copyFrom_27 o ?_
  refine s_iconst d_X8_copyFrom_30 (okn rfl) ?_
  refine s_aload_n d_X8_copyFrom_31 rfl (ma 0 rfl) ?_
  obtain ⟨o, hV⟩ := hV
  refine f_RX8_24g rfl d_X8_copyFrom_32 o ?_
  refine s_iconst d_X8_copyFrom_35 (okn rfl) ?_
  refine s_bipush d_X8_copyFrom_36 (by decide) (okn rfl) ?_
  obtain ⟨o, hV⟩ := hV
  refine s_acpy d_X8_copyFrom_38 sy_RX8_38 sy_nat sy_sta sy_ini (Nat.le_of_ble_eq_true rfl) rfl o.1 o.2.1 o.2.2.1 o.2.2.2.1 o.2.2.2.2.1 o.2.2.2.2.2.1 o.2.2.2.2.2.2 ?_
  refine s_nmH (fun h3 eh3 => ?_)
  have hV := hV h3 eh3
  refine s_aload_n d_X8_copyFrom_41 rfl (ma 0 rfl) ?_
  refine s_aload_n d_X8_copyFrom_42 rfl (ma 1 rfl) ?_
  obtain ⟨o, hV⟩ := hV
  refine f_RX8_31g rfl d_X8_copyFrom_43 o ?_
  obtain ⟨o, hV⟩ := hV
  refine f_RX8_31p rfl d_X8_copyFrom_46 o (fun h4 eh4 => ?_)
  have hV := hV h4 eh4
  refine s_aload_n d_X8_copyFrom_49 rfl (ma 0 rfl) ?_
  refine s_aload_n d_X8_copyFrom_50 rfl (ma 1 rfl) ?_
  obtain ⟨o, hV⟩ := hV
  refine f_RX8_35g rfl d_X8_copyFrom_51 o ?_
  obtain ⟨o, hV⟩ := hV
  refine f_RX8_35p rfl d_X8_copyFrom_54 o (fun h5 eh5 => ?_)
  have hV := hV h5 eh5
  exact s_vret d_X8_copyFrom_57 rfl ⟨rfl, hV⟩

theorem d_X8_becomeReading_0 : decode i_X8_becomeReading.2.1 0 = .ok (.aload_n 0, 1) := by decide +kernel
theorem d_X8_becomeReading_1 : decode i_X8_becomeReading.2.1 1 = .ok (.iload_n 1, 1) := by decide +kernel
theorem d_X8_becomeReading_2 : decode i_X8_becomeReading.2.1 2 = .ok (.invokevirtual 44, 3) := by decide +kernel
theorem d_X8_becomeReading_5 : decode i_X8_becomeReading.2.1 5 = .ok (.aload_n 0, 1) := by decide +kernel
theorem d_X8_becomeReading_6 : decode i_X8_becomeReading.2.1 6 = .ok (.getfield 14, 3) := by decide +kernel
theorem d_X8_becomeReading_9 : decode i_X8_becomeReading.2.1 9 = .ok (.aload_n 2, 1) := by decide +kernel
theorem d_X8_becomeReading_10 : decode i_X8_becomeReading.2.1 10 = .ok (.invokevirtual 27, 3) := by decide +kernel
theorem d_X8_becomeReading_13 : decode i_X8_becomeReading.2.1 13 = .ok (.aload_n 0, 1) := by decide +kernel
theorem d_X8_becomeReading_14 : decode i_X8_becomeReading.2.1 14 = .ok (.dup, 1) := by decide +kernel
theorem d_X8_becomeReading_15 : decode i_X8_becomeReading.2.1 15 = .ok (.getfield 35, 3) := by decide +kernel
theorem d_X8_becomeReading_18 : decode i_X8_becomeReading.2.1 18 = .ok (.iconst 1, 1) := by decide +kernel
theorem d_X8_becomeReading_19 : decode i_X8_becomeReading.2.1 19 = .ok (.iadd, 1) := by decide +kernel
theorem d_X8_becomeReading_20 : decode i_X8_becomeReading.2.1 20 = .ok (.putfield 35, 3) := by decide +kernel
theorem d_X8_becomeReading_23 : decode i_X8_becomeReading.2.1 23 = .ok (.return_, 1) := by decide +kernel
def V_X8_becomeReading (x0 : Nat) (x1 : Int) (x2 : Nat) (h : Hp) (Q : Hp → Prop) : Prop :=
  hK h x0 = 7 ∧ C_X8_logReading x0 x1 h (fun h1 => (hK h1 x0 = 7 ∧ (hK h1 (hR h1 x0 0) = 2 ∧ C_X2_copyFrom (hR h1 x0 0) x2 h1 (fun h2 => (hK h2 x0 = 7 ∧ (((-2147483648 : Int) ≤ (hI h2 x0 4) + 1 ∧ (hI h2 x0 4) + 1 ≤ (2147483647 : Int)) ∧ (hK h2 x0 = 7 ∧ ∀ h3 : Hp, h3 = wI h2 x0 4 ((hI h2 x0 4) + 1) → (Q h3))))))))
theorem G_X8_becomeReading {x0 : Nat} {x1 : Int} {x2 : Nat} (h : Hp) (Q : Hp → Prop) (hV : V_X8_becomeReading x0 x1 x2 h Q) : C_X8_becomeReading x0 x1 x2 h Q := by
  unfold V_X8_becomeReading at hV
  show Go i_X8_becomeReading 0 [(0, .inr (.inr x0)), (1, .inl x1), (2, .inr (.inr x2))] [] h (qV Q)
  refine s_aload_n d_X8_becomeReading_0 rfl (ma 0 rfl) ?_
  refine s_iload_n d_X8_becomeReading_1 rfl (ma 1 rfl) ?_
  obtain ⟨o, hV⟩ := hV
  refine v_RX8_44 rfl (Nat.le_of_ble_eq_true rfl) d_X8_becomeReading_2 o (Nat.le_of_ble_eq_true rfl) hV (fun h1 hV => ?_)
  refine s_aload_n d_X8_becomeReading_5 rfl (ma 0 rfl) ?_
  obtain ⟨o, hV⟩ := hV
  refine f_RX8_14g rfl d_X8_becomeReading_6 o ?_
  refine s_aload_n d_X8_becomeReading_9 rfl (ma 2 rfl) ?_
  obtain ⟨o, hV⟩ := hV
  refine v_RX8_27 rfl (Nat.le_of_ble_eq_true rfl) d_X8_becomeReading_10 o (Nat.le_of_ble_eq_true rfl) hV (fun h2 hV => ?_)
  refine s_aload_n d_X8_becomeReading_13 rfl (ma 0 rfl) ?_
  refine s_dup d_X8_becomeReading_14 rfl ?_
  obtain ⟨o, hV⟩ := hV
  refine f_RX8_35g rfl d_X8_becomeReading_15 o ?_
  refine s_iconst d_X8_becomeReading_18 (okn rfl) ?_
  obtain ⟨o, hV⟩ := hV
  refine s_iadd d_X8_becomeReading_19 o ?_
  obtain ⟨o, hV⟩ := hV
  refine f_RX8_35p rfl d_X8_becomeReading_20 o (fun h3 eh3 => ?_)
  have hV := hV h3 eh3
  exact s_vret d_X8_becomeReading_23 rfl ⟨rfl, hV⟩

theorem d_X8_logReading_0 : decode i_X8_logReading.2.1 0 = .ok (.bipush 19, 2) := by decide +kernel
theorem d_X8_logReading_2 : decode i_X8_logReading.2.1 2 = .ok (.istore_n 2, 1) := by decide +kernel
theorem d_X8_logReading_3 : decode i_X8_logReading.2.1 3 = .ok (.iload_n 2, 1) := by decide +kernel
theorem d_X8_logReading_4 : decode i_X8_logReading.2.1 4 = .ok (.ifCond .le 37, 3) := by decide +kernel
theorem d_X8_logReading_7 : decode i_X8_logReading.2.1 7 = .ok (.aload_n 0, 1) := by decide +kernel
theorem d_X8_logReading_8 : decode i_X8_logReading.2.1 8 = .ok (.getfield 20, 3) := by decide +kernel
theorem d_X8_logReading_11 : decode i_X8_logReading.2.1 11 = .ok (.iload_n 2, 1) := by decide +kernel
theorem d_X8_logReading_12 : decode i_X8_logReading.2.1 12 = .ok (.aload_n 0, 1) := by decide +kernel
theorem d_X8_logReading_13 : decode i_X8_logReading.2.1 13 = .ok (.getfield 20, 3) := by decide +kernel
theorem d_X8_logReading_16 : decode i_X8_logReading.2.1 16 = .ok (.iload_n 2, 1) := by decide +kernel
theorem d_X8_logReading_17 : decode i_X8_logReading.2.1 17 = .ok (.iconst 1, 1) := by decide +kernel
theorem d_X8_logReading_18 : decode i_X8_logReading.2.1 18 = .ok (.isub, 1) := by decide +kernel
theorem d_X8_logReading_19 : decode i_X8_logReading.2.1 19 = .ok (.baload, 1) := by decide +kernel
theorem d_X8_logReading_20 : decode i_X8_logReading.2.1 20 = .ok (.bastore, 1) := by decide +kernel
theorem d_X8_logReading_21 : decode i_X8_logReading.2.1 21 = .ok (.aload_n 0, 1) := by decide +kernel
theorem d_X8_logReading_22 : decode i_X8_logReading.2.1 22 = .ok (.getfield 24, 3) := by decide +kernel
theorem d_X8_logReading_25 : decode i_X8_logReading.2.1 25 = .ok (.iload_n 2, 1) := by decide +kernel
theorem d_X8_logReading_26 : decode i_X8_logReading.2.1 26 = .ok (.aload_n 0, 1) := by decide +kernel
theorem d_X8_logReading_27 : decode i_X8_logReading.2.1 27 = .ok (.getfield 24, 3) := by decide +kernel
theorem d_X8_logReading_30 : decode i_X8_logReading.2.1 30 = .ok (.iload_n 2, 1) := by decide +kernel
theorem d_X8_logReading_31 : decode i_X8_logReading.2.1 31 = .ok (.iconst 1, 1) := by decide +kernel
theorem d_X8_logReading_32 : decode i_X8_logReading.2.1 32 = .ok (.isub, 1) := by decide +kernel
theorem d_X8_logReading_33 : decode i_X8_logReading.2.1 33 = .ok (.baload, 1) := by decide +kernel
theorem d_X8_logReading_34 : decode i_X8_logReading.2.1 34 = .ok (.bastore, 1) := by decide +kernel
theorem d_X8_logReading_35 : decode i_X8_logReading.2.1 35 = .ok (.iinc 2 (-1), 3) := by decide +kernel
theorem d_X8_logReading_38 : decode i_X8_logReading.2.1 38 = .ok (.goto (-35), 3) := by decide +kernel
theorem d_X8_logReading_41 : decode i_X8_logReading.2.1 41 = .ok (.aload_n 0, 1) := by decide +kernel
theorem d_X8_logReading_42 : decode i_X8_logReading.2.1 42 = .ok (.getfield 20, 3) := by decide +kernel
theorem d_X8_logReading_45 : decode i_X8_logReading.2.1 45 = .ok (.iconst 0, 1) := by decide +kernel
theorem d_X8_logReading_46 : decode i_X8_logReading.2.1 46 = .ok (.iload_n 1, 1) := by decide +kernel
theorem d_X8_logReading_47 : decode i_X8_logReading.2.1 47 = .ok (.i2b, 1) := by decide +kernel
theorem d_X8_logReading_48 : decode i_X8_logReading.2.1 48 = .ok (.bastore, 1) := by decide +kernel
theorem d_X8_logReading_49 : decode i_X8_logReading.2.1 49 = .ok (.aload_n 0, 1) := by decide +kernel
theorem d_X8_logReading_50 : decode i_X8_logReading.2.1 50 = .ok (.getfield 24, 3) := by decide +kernel
theorem d_X8_logReading_53 : decode i_X8_logReading.2.1 53 = .ok (.iconst 0, 1) := by decide +kernel
theorem d_X8_logReading_54 : decode i_X8_logReading.2.1 54 = .ok (.aload_n 0, 1) := by decide +kernel
theorem d_X8_logReading_55 : decode i_X8_logReading.2.1 55 = .ok (.getfield 14, 3) := by decide +kernel
theorem d_X8_logReading_58 : decode i_X8_logReading.2.1 58 = .ok (.getfield 47, 3) := by decide +kernel
theorem d_X8_logReading_61 : decode i_X8_logReading.2.1 61 = .ok (.i2b, 1) := by decide +kernel
theorem d_X8_logReading_62 : decode i_X8_logReading.2.1 62 = .ok (.bastore, 1) := by decide +kernel
theorem d_X8_logReading_63 : decode i_X8_logReading.2.1 63 = .ok (.aload_n 0, 1) := by decide +kernel
theorem d_X8_logReading_64 : decode i_X8_logReading.2.1 64 = .ok (.bipush 20, 2) := by decide +kernel
theorem d_X8_logReading_66 : decode i_X8_logReading.2.1 66 = .ok (.aload_n 0, 1) := by decide +kernel
theorem d_X8_logReading_67 : decode i_X8_logReading.2.1 67 = .ok (.getfield 31, 3) := by decide +kernel
theorem d_X8_logReading_70 : decode i_X8_logReading.2.1 70 = .ok (.iconst 1, 1) := by decide +kernel
theorem d_X8_logReading_71 : decode i_X8_logReading.2.1 71 = .ok (.iadd, 1) := by decide +kernel
theorem d_X8_logReading_72 : decode i_X8_logReading.2.1 72 = .ok (.invokestatic 50, 3) := by decide +kernel
theorem d_X8_logReading_75 : decode i_X8_logReading.2.1 75 = .ok (.putfield 31, 3) := by decide +kernel
theorem d_X8_logReading_78 : decode i_X8_logReading.2.1 78 = .ok (.return_, 1) := by decide +kernel
def BLp_X8_logReading_3 (x0 : Nat) (x1 : Int) (P3 : Int → Hp → Prop) (x2 : Int) (h : Hp) (Q : Hp → Prop) : Prop :=
  (x2 ≤ 0 → (hK h x0 = 7 ∧ (((-128 : Int) ≤ x1 ∧ x1 ≤ (127 : Int)) ∧ ((hK h (hR h x0 1) = 13 ∧ (0 : Int) ≤ 0 ∧ 0 < hL h (hR h x0 1) ∧ ((-128 : Int) ≤ x1 ∧ x1 ≤ (127 : Int))) ∧ ∀ h1 : Hp, h1 = wI h (hR h x0 1) 0 x1 → (hK h1 x0 = 7 ∧ (hK h1 x0 = 7 ∧ (hK h1 (hR h1 x0 0) = 2 ∧ (((-128 : Int) ≤ hI h1 (hR h1 x0 0) 1 ∧ hI h1 (hR h1 x0 0) 1 ≤ (127 : Int)) ∧ ((hK h1 (hR h1 x0 2) = 13 ∧ (0 : Int) ≤ 0 ∧ 0 < hL h1 (hR h1 x0 2) ∧ ((-128 : Int) ≤ hI h1 (hR h1 x0 0) 1 ∧ hI h1 (hR h1 x0 0) 1 ≤ (127 : Int))) ∧ ∀ h2 : Hp, h2 = wI h1 (hR h1 x0 2) 0 (hI h1 (hR h1 x0 0) 1) → (hK h2 x0 = 7 ∧ (((-2147483648 : Int) ≤ (hI h2 x0 3) + 1 ∧ (hI h2 x0 3) + 1 ≤ (2147483647 : Int)) ∧ (hK h2 x0 = 7 ∧ ∀ h3 : Hp, h3 = wI h2 x0 3 (min 20 ((hI h2 x0 3) + 1)) → (Q h3))))))))))))) ∧ (¬ x2 ≤ 0 → (hK h x0 = 7 ∧ (hK h x0 = 7 ∧ (((-2147483648 : Int) ≤ x2 - 1 ∧ x2 - 1 ≤ (2147483647 : Int)) ∧ ((hK h (hR h x0 1) = 13 ∧ (0 : Int) ≤ x2 - 1 ∧ x2 - 1 < hL h (hR h x0 1)) ∧ ((hK h (hR h x0 1) = 13 ∧ (0 : Int) ≤ x2 ∧ x2 < hL h (hR h x0 1) ∧ ((-128 : Int) ≤ hI h (hR h x0 1) (x2 - 1) ∧ hI h (hR h x0 1) (x2 - 1) ≤ (127 : Int))) ∧ ∀ h4 : Hp, h4 = wI h (hR h x0 1) x2 (hI h (hR h x0 1) (x2 - 1)) → (hK h4 x0 = 7 ∧ (hK h4 x0 = 7 ∧ (((-2147483648 : Int) ≤ x2 - 1 ∧ x2 - 1 ≤ (2147483647 : Int)) ∧ ((hK h4 (hR h4 x0 2) = 13 ∧ (0 : Int) ≤ x2 - 1 ∧ x2 - 1 < hL h4 (hR h4 x0 2)) ∧ ((hK h4 (hR h4 x0 2) = 13 ∧ (0 : Int) ≤ x2 ∧ x2 < hL h4 (hR h4 x0 2) ∧ ((-128 : Int) ≤ hI h4 (hR h4 x0 2) (x2 - 1) ∧ hI h4 (hR h4 x0 2) (x2 - 1) ≤ (127 : Int))) ∧ ∀ h5 : Hp, h5 = wI h4 (hR h4 x0 2) x2 (hI h4 (hR h4 x0 2) (x2 - 1)) → (((-2147483648 : Int) ≤ x2 + (-1) ∧ x2 + (-1) ≤ (2147483647 : Int)) ∧ (P3 (x2 + (-1)) h5)))))))))))))
def Lp_X8_logReading_3 (x0 : Nat) (x1 : Int) (x2 : Int) (h : Hp) (Q : Hp → Prop) : Prop := ∀ P3 : Int → Hp → Prop, (∀ (x2 : Int) (h : Hp), BLp_X8_logReading_3 x0 x1 P3 x2 h Q → P3 x2 h) → P3 x2 h
theorem Lp_X8_logReading_3_ind {x0 : Nat} {x1 : Int} {Q : Hp → Prop} (I : Int → Hp → Prop) (μ : Int → Hp → Nat) (hs : ∀ (P3 : Int → Hp → Prop) (x2 : Int) (h : Hp), I x2 h → (∀ (x2' : Int) (h' : Hp), I x2' h' → μ x2' h' < μ x2 h → P3 x2' h') → BLp_X8_logReading_3 x0 x1 P3 x2 h Q) : ∀ (x2 : Int) (h : Hp), I x2 h → Lp_X8_logReading_3 x0 x1 x2 h Q := by
  intro x2 h hI P3 hP
  have key : ∀ (n : Nat) (x2 : Int) (h : Hp), I x2 h → μ x2 h < n → P3 x2 h := by
    intro n
    induction n with
    | zero => intro x2 h _ hl; exact absurd hl (Nat.not_lt_zero _)
    | succ n ih => intro x2 h hi hl; exact hP x2 h (hs P3 x2 h hi (fun x2 h' hi' hl' => ih x2 h' hi' (by omega)))
  exact key _ x2 h hI (Nat.lt_succ_self _)
theorem GLp_X8_logReading_3 (x0 : Nat) (x1 : Int) (x2 : Int) (h : Hp) (Q : Hp → Prop) (hV : Lp_X8_logReading_3 x0 x1 x2 h Q) : Go i_X8_logReading 3 [(0, .inr (.inr x0)), (1, .inl x1), (2, .inl x2)] [] h (qV Q) := by
  refine hV (fun x2 h => Go i_X8_logReading 3 [(0, .inr (.inr x0)), (1, .inl x1), (2, .inl x2)] [] h (qV Q)) (fun x2 h hV => ?_)
  unfold BLp_X8_logReading_3 at hV
  have hP3 : ∀ (x2 : Int) (h : Hp), Go i_X8_logReading 3 [(0, .inr (.inr x0)), (1, .inl x1), (2, .inl x2)] [] h (qV Q) → Go i_X8_logReading 3 [(0, .inr (.inr x0)), (1, .inl x1), (2, .inl x2)] [] h (qV Q) := fun _ h z => z
  refine s_iload_n d_X8_logReading_3 rfl (ma 2 rfl) ?_
  refine s_if_le (tgt := 41) d_X8_logReading_4 (by decide) (fun c => ?_) (fun c => ?_)
  · have hV := hV.1 c
    refine s_aload_n d_X8_logReading_41 rfl (ma 0 rfl) ?_
    obtain ⟨o, hV⟩ := hV
    refine f_RX8_20g rfl d_X8_logReading_42 o ?_
    refine s_iconst d_X8_logReading_45 (okn rfl) ?_
    refine s_iload_n d_X8_logReading_46 rfl (ma 1 rfl) ?_
    obtain ⟨o, hV⟩ := hV
    refine s_i2b d_X8_logReading_47 o ?_
    obtain ⟨o, hV⟩ := hV
    refine s_bast d_X8_logReading_48 o.1 o.2.1 o.2.2.1 o.2.2.2 ?_
    refine s_nmH (fun h1 eh1 => ?_)
    have hV := hV h1 eh1
    refine s_aload_n d_X8_logReading_49 rfl (ma 0 rfl) ?_
    obtain ⟨o, hV⟩ := hV
    refine f_RX8_24g rfl d_X8_logReading_50 o ?_
    refine s_iconst d_X8_logReading_53 (okn rfl) ?_
    refine s_aload_n d_X8_logReading_54 rfl (ma 0 rfl) ?_
    obtain ⟨o, hV⟩ := hV
    refine f_RX8_14g rfl d_X8_logReading_55 o ?_
    obtain ⟨o, hV⟩ := hV
    refine f_RX8_47g rfl d_X8_logReading_58 o ?_
    obtain ⟨o, hV⟩ := hV
    refine s_i2b d_X8_logReading_61 o ?_
    obtain ⟨o, hV⟩ := hV
    refine s_bast d_X8_logReading_62 o.1 o.2.1 o.2.2.1 o.2.2.2 ?_
    refine s_nmH (fun h2 eh2 => ?_)
    have hV := hV h2 eh2
    refine s_aload_n d_X8_logReading_63 rfl (ma 0 rfl) ?_
    refine s_bipush d_X8_logReading_64 (by decide) (okn rfl) ?_
    refine s_aload_n d_X8_logReading_66 rfl (ma 0 rfl) ?_
    obtain ⟨o, hV⟩ := hV
    refine f_RX8_31g rfl d_X8_logReading_67 o ?_
    refine s_iconst d_X8_logReading_70 (okn rfl) ?_
    obtain ⟨o, hV⟩ := hV
    refine s_iadd d_X8_logReading_71 o ?_
    refine s_mmin d_X8_logReading_72 mm_RX8_50 (Nat.le_of_ble_eq_true rfl) (Nat.le_of_ble_eq_true rfl) ?_
    obtain ⟨o, hV⟩ := hV
    refine f_RX8_31p rfl d_X8_logReading_75 o (fun h3 eh3 => ?_)
    have hV := hV h3 eh3
    exact s_vret d_X8_logReading_78 rfl ⟨rfl, hV⟩
  · have hV := hV.2 c
    refine s_aload_n d_X8_logReading_7 rfl (ma 0 rfl) ?_
    obtain ⟨o, hV⟩ := hV
    refine f_RX8_20g rfl d_X8_logReading_8 o ?_
    refine s_iload_n d_X8_logReading_11 rfl (ma 2 rfl) ?_
    refine s_aload_n d_X8_logReading_12 rfl (ma 0 rfl) ?_
    obtain ⟨o, hV⟩ := hV
    refine f_RX8_20g rfl d_X8_logReading_13 o ?_
    refine s_iload_n d_X8_logReading_16 rfl (ma 2 rfl) ?_
    refine s_iconst d_X8_logReading_17 (okn rfl) ?_
    obtain ⟨o, hV⟩ := hV
    refine s_isub d_X8_logReading_18 o ?_
    obtain ⟨o, hV⟩ := hV
    refine s_bald d_X8_logReading_19 o.1 o.2.1 o.2.2 ?_
    obtain ⟨o, hV⟩ := hV
    refine s_bast d_X8_logReading_20 o.1 o.2.1 o.2.2.1 o.2.2.2 ?_
    refine s_nmH (fun h4 eh4 => ?_)
    have hV := hV h4 eh4
    refine s_aload_n d_X8_logReading_21 rfl (ma 0 rfl) ?_
    obtain ⟨o, hV⟩ := hV
    refine f_RX8_24g rfl d_X8_logReading_22 o ?_
    refine s_iload_n d_X8_logReading_25 rfl (ma 2 rfl) ?_
    refine s_aload_n d_X8_logReading_26 rfl (ma 0 rfl) ?_
    obtain ⟨o, hV⟩ := hV
    refine f_RX8_24g rfl d_X8_logReading_27 o ?_
    refine s_iload_n d_X8_logReading_30 rfl (ma 2 rfl) ?_
    refine s_iconst d_X8_logReading_31 (okn rfl) ?_
    obtain ⟨o, hV⟩ := hV
    refine s_isub d_X8_logReading_32 o ?_
    obtain ⟨o, hV⟩ := hV
    refine s_bald d_X8_logReading_33 o.1 o.2.1 o.2.2 ?_
    obtain ⟨o, hV⟩ := hV
    refine s_bast d_X8_logReading_34 o.1 o.2.1 o.2.2.1 o.2.2.2 ?_
    refine s_nmH (fun h5 eh5 => ?_)
    have hV := hV h5 eh5
    obtain ⟨o, hV⟩ := hV
    refine s_iinc (lv' := [(2, .inl (x2 + (-1))), (0, .inr (.inr x0)), (1, .inl x1)]) d_X8_logReading_35 (ma 2 rfl) o (Nat.le_of_ble_eq_true rfl) rfl ?_
    refine s_goto (tgt := 3) d_X8_logReading_38 (by decide) ?_
    refine s_pick (lv' := [(0, .inr (.inr x0)), (1, .inl x1), (2, .inl (x2 + (-1)))]) [1, 2, 0] rfl ?_
    exact hP3 _ _ hV
def V_X8_logReading (x0 : Nat) (x1 : Int) (h : Hp) (Q : Hp → Prop) : Prop :=
  Lp_X8_logReading_3 x0 x1 19 h Q
theorem G_X8_logReading {x0 : Nat} {x1 : Int} (h : Hp) (Q : Hp → Prop) (hV : V_X8_logReading x0 x1 h Q) : C_X8_logReading x0 x1 h Q := by
  unfold V_X8_logReading at hV
  show Go i_X8_logReading 0 [(0, .inr (.inr x0)), (1, .inl x1)] [] h (qV Q)
  refine s_bipush d_X8_logReading_0 (by decide) (okn rfl) ?_
  refine s_istore_n (lv' := [(2, .inl 19), (0, .inr (.inr x0)), (1, .inl x1)]) d_X8_logReading_2 rfl (Nat.le_of_ble_eq_true rfl) rfl ?_
  refine s_pick (lv' := [(0, .inr (.inr x0)), (1, .inl x1), (2, .inl 19)]) [1, 2, 0] rfl ?_
  exact GLp_X8_logReading_3 _ _ _ _ _ hV

theorem d_X8_loggedKind_0 : decode i_X8_loggedKind.2.1 0 = .ok (.iload_n 1, 1) := by decide +kernel
theorem d_X8_loggedKind_1 : decode i_X8_loggedKind.2.1 1 = .ok (.ifCond .lt 20, 3) := by decide +kernel
theorem d_X8_loggedKind_4 : decode i_X8_loggedKind.2.1 4 = .ok (.iload_n 1, 1) := by decide +kernel
theorem d_X8_loggedKind_5 : decode i_X8_loggedKind.2.1 5 = .ok (.aload_n 0, 1) := by decide +kernel
theorem d_X8_loggedKind_6 : decode i_X8_loggedKind.2.1 6 = .ok (.getfield 31, 3) := by decide +kernel
theorem d_X8_loggedKind_9 : decode i_X8_loggedKind.2.1 9 = .ok (.if_icmp .ge 12, 3) := by decide +kernel
theorem d_X8_loggedKind_12 : decode i_X8_loggedKind.2.1 12 = .ok (.aload_n 0, 1) := by decide +kernel
theorem d_X8_loggedKind_13 : decode i_X8_loggedKind.2.1 13 = .ok (.getfield 20, 3) := by decide +kernel
theorem d_X8_loggedKind_16 : decode i_X8_loggedKind.2.1 16 = .ok (.iload_n 1, 1) := by decide +kernel
theorem d_X8_loggedKind_17 : decode i_X8_loggedKind.2.1 17 = .ok (.baload, 1) := by decide +kernel
theorem d_X8_loggedKind_18 : decode i_X8_loggedKind.2.1 18 = .ok (.goto 4, 3) := by decide +kernel
theorem d_X8_loggedKind_21 : decode i_X8_loggedKind.2.1 21 = .ok (.iconst (-1), 1) := by decide +kernel
theorem d_X8_loggedKind_22 : decode i_X8_loggedKind.2.1 22 = .ok (.ireturn, 1) := by decide +kernel
def V_X8_loggedKind (x0 : Nat) (x1 : Int) (h : Hp) (Q : Int → Hp → Prop) : Prop :=
  (x1 < 0 → (Q (-1) h)) ∧ (¬ x1 < 0 → (hK h x0 = 7 ∧ ((hI h x0 3 ≤ x1 → (Q (-1) h)) ∧ (¬ hI h x0 3 ≤ x1 → (hK h x0 = 7 ∧ ((hK h (hR h x0 1) = 13 ∧ (0 : Int) ≤ x1 ∧ x1 < hL h (hR h x0 1)) ∧ (Q (hI h (hR h x0 1) x1) h)))))))
theorem G_X8_loggedKind {x0 : Nat} {x1 : Int} (h : Hp) (Q : Int → Hp → Prop) (hV : V_X8_loggedKind x0 x1 h Q) : C_X8_loggedKind x0 x1 h Q := by
  unfold V_X8_loggedKind at hV
  show Go i_X8_loggedKind 0 [(0, .inr (.inr x0)), (1, .inl x1)] [] h (qI Q)
  refine s_iload_n d_X8_loggedKind_0 rfl (ma 1 rfl) ?_
  refine s_if_lt (tgt := 21) d_X8_loggedKind_1 (by decide) (fun c => ?_) (fun c => ?_)
  · have hV := hV.1 c
    refine s_iconst d_X8_loggedKind_21 (okn rfl) ?_
    exact s_iret d_X8_loggedKind_22 rfl rfl ⟨_, rfl, hV⟩
  · have hV := hV.2 c
    refine s_iload_n d_X8_loggedKind_4 rfl (ma 1 rfl) ?_
    refine s_aload_n d_X8_loggedKind_5 rfl (ma 0 rfl) ?_
    obtain ⟨o, hV⟩ := hV
    refine f_RX8_31g rfl d_X8_loggedKind_6 o ?_
    refine s_icmp_ge (tgt := 21) d_X8_loggedKind_9 (by decide) (fun c => ?_) (fun c => ?_)
    · have hV := hV.1 c
      refine s_iconst d_X8_loggedKind_21 (okn rfl) ?_
      exact s_iret d_X8_loggedKind_22 rfl rfl ⟨_, rfl, hV⟩
    · have hV := hV.2 c
      refine s_aload_n d_X8_loggedKind_12 rfl (ma 0 rfl) ?_
      obtain ⟨o, hV⟩ := hV
      refine f_RX8_20g rfl d_X8_loggedKind_13 o ?_
      refine s_iload_n d_X8_loggedKind_16 rfl (ma 1 rfl) ?_
      obtain ⟨o, hV⟩ := hV
      refine s_bald d_X8_loggedKind_17 o.1 o.2.1 o.2.2 ?_
      refine s_goto (tgt := 22) d_X8_loggedKind_18 (by decide) ?_
      exact s_iret d_X8_loggedKind_22 rfl rfl ⟨_, rfl, hV⟩

theorem d_X8_loggedSize_0 : decode i_X8_loggedSize.2.1 0 = .ok (.iload_n 1, 1) := by decide +kernel
theorem d_X8_loggedSize_1 : decode i_X8_loggedSize.2.1 1 = .ok (.ifCond .lt 20, 3) := by decide +kernel
theorem d_X8_loggedSize_4 : decode i_X8_loggedSize.2.1 4 = .ok (.iload_n 1, 1) := by decide +kernel
theorem d_X8_loggedSize_5 : decode i_X8_loggedSize.2.1 5 = .ok (.aload_n 0, 1) := by decide +kernel
theorem d_X8_loggedSize_6 : decode i_X8_loggedSize.2.1 6 = .ok (.getfield 31, 3) := by decide +kernel
theorem d_X8_loggedSize_9 : decode i_X8_loggedSize.2.1 9 = .ok (.if_icmp .ge 12, 3) := by decide +kernel
theorem d_X8_loggedSize_12 : decode i_X8_loggedSize.2.1 12 = .ok (.aload_n 0, 1) := by decide +kernel
theorem d_X8_loggedSize_13 : decode i_X8_loggedSize.2.1 13 = .ok (.getfield 24, 3) := by decide +kernel
theorem d_X8_loggedSize_16 : decode i_X8_loggedSize.2.1 16 = .ok (.iload_n 1, 1) := by decide +kernel
theorem d_X8_loggedSize_17 : decode i_X8_loggedSize.2.1 17 = .ok (.baload, 1) := by decide +kernel
theorem d_X8_loggedSize_18 : decode i_X8_loggedSize.2.1 18 = .ok (.goto 4, 3) := by decide +kernel
theorem d_X8_loggedSize_21 : decode i_X8_loggedSize.2.1 21 = .ok (.iconst (-1), 1) := by decide +kernel
theorem d_X8_loggedSize_22 : decode i_X8_loggedSize.2.1 22 = .ok (.ireturn, 1) := by decide +kernel
def V_X8_loggedSize (x0 : Nat) (x1 : Int) (h : Hp) (Q : Int → Hp → Prop) : Prop :=
  (x1 < 0 → (Q (-1) h)) ∧ (¬ x1 < 0 → (hK h x0 = 7 ∧ ((hI h x0 3 ≤ x1 → (Q (-1) h)) ∧ (¬ hI h x0 3 ≤ x1 → (hK h x0 = 7 ∧ ((hK h (hR h x0 2) = 13 ∧ (0 : Int) ≤ x1 ∧ x1 < hL h (hR h x0 2)) ∧ (Q (hI h (hR h x0 2) x1) h)))))))
theorem G_X8_loggedSize {x0 : Nat} {x1 : Int} (h : Hp) (Q : Int → Hp → Prop) (hV : V_X8_loggedSize x0 x1 h Q) : C_X8_loggedSize x0 x1 h Q := by
  unfold V_X8_loggedSize at hV
  show Go i_X8_loggedSize 0 [(0, .inr (.inr x0)), (1, .inl x1)] [] h (qI Q)
  refine s_iload_n d_X8_loggedSize_0 rfl (ma 1 rfl) ?_
  refine s_if_lt (tgt := 21) d_X8_loggedSize_1 (by decide) (fun c => ?_) (fun c => ?_)
  · have hV := hV.1 c
    refine s_iconst d_X8_loggedSize_21 (okn rfl) ?_
    exact s_iret d_X8_loggedSize_22 rfl rfl ⟨_, rfl, hV⟩
  · have hV := hV.2 c
    refine s_iload_n d_X8_loggedSize_4 rfl (ma 1 rfl) ?_
    refine s_aload_n d_X8_loggedSize_5 rfl (ma 0 rfl) ?_
    obtain ⟨o, hV⟩ := hV
    refine f_RX8_31g rfl d_X8_loggedSize_6 o ?_
    refine s_icmp_ge (tgt := 21) d_X8_loggedSize_9 (by decide) (fun c => ?_) (fun c => ?_)
    · have hV := hV.1 c
      refine s_iconst d_X8_loggedSize_21 (okn rfl) ?_
      exact s_iret d_X8_loggedSize_22 rfl rfl ⟨_, rfl, hV⟩
    · have hV := hV.2 c
      refine s_aload_n d_X8_loggedSize_12 rfl (ma 0 rfl) ?_
      obtain ⟨o, hV⟩ := hV
      refine f_RX8_24g rfl d_X8_loggedSize_13 o ?_
      refine s_iload_n d_X8_loggedSize_16 rfl (ma 1 rfl) ?_
      obtain ⟨o, hV⟩ := hV
      refine s_bald d_X8_loggedSize_17 o.1 o.2.1 o.2.2 ?_
      refine s_goto (tgt := 22) d_X8_loggedSize_18 (by decide) ?_
      exact s_iret d_X8_loggedSize_22 rfl rfl ⟨_, rfl, hV⟩

theorem d_X0_init_0 : decode i_X0_init.2.1 0 = .ok (.aload_n 0, 1) := by decide +kernel
theorem d_X0_init_1 : decode i_X0_init.2.1 1 = .ok (.invokespecial 3, 3) := by decide +kernel
theorem d_X0_init_4 : decode i_X0_init.2.1 4 = .ok (.aload_n 0, 1) := by decide +kernel
theorem d_X0_init_5 : decode i_X0_init.2.1 5 = .ok (.bipush 20, 2) := by decide +kernel
theorem d_X0_init_7 : decode i_X0_init.2.1 7 = .ok (.newarray .byte, 2) := by decide +kernel
theorem d_X0_init_9 : decode i_X0_init.2.1 9 = .ok (.putfield 9, 3) := by decide +kernel
theorem d_X0_init_12 : decode i_X0_init.2.1 12 = .ok (.aload_n 0, 1) := by decide +kernel
theorem d_X0_init_13 : decode i_X0_init.2.1 13 = .ok (.bipush 20, 2) := by decide +kernel
theorem d_X0_init_15 : decode i_X0_init.2.1 15 = .ok (.newarray .byte, 2) := by decide +kernel
theorem d_X0_init_17 : decode i_X0_init.2.1 17 = .ok (.putfield 15, 3) := by decide +kernel
theorem d_X0_init_20 : decode i_X0_init.2.1 20 = .ok (.return_, 1) := by decide +kernel
def V_X0_init (x0 : Nat) (h : Hp) (Q : Hp → Prop) : Prop :=
  hK h x0 = 0 ∧ (((0 : Int) ≤ 20 ∧ 20 ≤ (100000000 : Int)) ∧ ∀ n1 : Nat, n1 = hN h → ∀ h2 : Hp, h2 = al h 13 20 (Int.toNat 20) → (hK h2 x0 = 0 ∧ ∀ h3 : Hp, h3 = wR h2 x0 0 n1 → (((0 : Int) ≤ 20 ∧ 20 ≤ (100000000 : Int)) ∧ ∀ n4 : Nat, n4 = hN h3 → ∀ h5 : Hp, h5 = al h3 13 20 (Int.toNat 20) → (hK h5 x0 = 0 ∧ ∀ h6 : Hp, h6 = wR h5 x0 1 n4 → (Q h6)))))
theorem G_X0_init {x0 : Nat} (h : Hp) (Q : Hp → Prop) (hV : V_X0_init x0 h Q) : C_X0_init x0 h Q := by
  unfold V_X0_init at hV
  show Go i_X0_init 0 [(0, .inr (.inr x0))] [] h (qV Q)
  refine s_aload_n d_X0_init_0 rfl (ma 0 rfl) ?_
  obtain ⟨o, hV⟩ := hV
  refine s_objInit d_X0_init_1 ob_RX0_3 (Nat.le_of_ble_eq_true rfl) rfl (by rw [o]; decide) ?_
  refine s_aload_n d_X0_init_4 rfl (ma 0 rfl) ?_
  refine s_bipush d_X0_init_5 (by decide) (okn rfl) ?_
  obtain ⟨o, hV⟩ := hV
  refine s_newb d_X0_init_7 ac_byte o.1 o.2 ?_
  refine s_nmA (fun n1 en1 => ?_)
  refine s_nmH (fun h2 eh2 => ?_)
  have hV := hV n1 en1 h2 eh2
  obtain ⟨o, hV⟩ := hV
  refine f_RX0_9p rfl rfl d_X0_init_9 o (fun h3 eh3 => ?_)
  have hV := hV h3 eh3
  refine s_aload_n d_X0_init_12 rfl (ma 0 rfl) ?_
  refine s_bipush d_X0_init_13 (by decide) (okn rfl) ?_
  obtain ⟨o, hV⟩ := hV
  refine s_newb d_X0_init_15 ac_byte o.1 o.2 ?_
  refine s_nmA (fun n4 en4 => ?_)
  refine s_nmH (fun h5 eh5 => ?_)
  have hV := hV n4 en4 h5 eh5
  obtain ⟨o, hV⟩ := hV
  refine f_RX0_15p rfl rfl d_X0_init_17 o (fun h6 eh6 => ?_)
  have hV := hV h6 eh6
  exact s_vret d_X0_init_20 rfl ⟨rfl, hV⟩

theorem d_X0_append_0 : decode i_X0_append.2.1 0 = .ok (.aload_n 0, 1) := by decide +kernel
theorem d_X0_append_1 : decode i_X0_append.2.1 1 = .ok (.getfield 18, 3) := by decide +kernel
theorem d_X0_append_4 : decode i_X0_append.2.1 4 = .ok (.bipush 20, 2) := by decide +kernel
theorem d_X0_append_6 : decode i_X0_append.2.1 6 = .ok (.if_icmp .lt 5, 3) := by decide +kernel
theorem d_X0_append_9 : decode i_X0_append.2.1 9 = .ok (.iconst 0, 1) := by decide +kernel
theorem d_X0_append_10 : decode i_X0_append.2.1 10 = .ok (.ireturn, 1) := by decide +kernel
theorem d_X0_append_11 : decode i_X0_append.2.1 11 = .ok (.aload_n 0, 1) := by decide +kernel
theorem d_X0_append_12 : decode i_X0_append.2.1 12 = .ok (.getfield 9, 3) := by decide +kernel
theorem d_X0_append_15 : decode i_X0_append.2.1 15 = .ok (.aload_n 0, 1) := by decide +kernel
theorem d_X0_append_16 : decode i_X0_append.2.1 16 = .ok (.getfield 18, 3) := by decide +kernel
theorem d_X0_append_19 : decode i_X0_append.2.1 19 = .ok (.iload_n 1, 1) := by decide +kernel
theorem d_X0_append_20 : decode i_X0_append.2.1 20 = .ok (.i2b, 1) := by decide +kernel
theorem d_X0_append_21 : decode i_X0_append.2.1 21 = .ok (.bastore, 1) := by decide +kernel
theorem d_X0_append_22 : decode i_X0_append.2.1 22 = .ok (.aload_n 0, 1) := by decide +kernel
theorem d_X0_append_23 : decode i_X0_append.2.1 23 = .ok (.getfield 15, 3) := by decide +kernel
theorem d_X0_append_26 : decode i_X0_append.2.1 26 = .ok (.aload_n 0, 1) := by decide +kernel
theorem d_X0_append_27 : decode i_X0_append.2.1 27 = .ok (.getfield 18, 3) := by decide +kernel
theorem d_X0_append_30 : decode i_X0_append.2.1 30 = .ok (.iload_n 2, 1) := by decide +kernel
theorem d_X0_append_31 : decode i_X0_append.2.1 31 = .ok (.i2b, 1) := by decide +kernel
theorem d_X0_append_32 : decode i_X0_append.2.1 32 = .ok (.bastore, 1) := by decide +kernel
theorem d_X0_append_33 : decode i_X0_append.2.1 33 = .ok (.aload_n 0, 1) := by decide +kernel
theorem d_X0_append_34 : decode i_X0_append.2.1 34 = .ok (.dup, 1) := by decide +kernel
theorem d_X0_append_35 : decode i_X0_append.2.1 35 = .ok (.getfield 18, 3) := by decide +kernel
theorem d_X0_append_38 : decode i_X0_append.2.1 38 = .ok (.iconst 1, 1) := by decide +kernel
theorem d_X0_append_39 : decode i_X0_append.2.1 39 = .ok (.iadd, 1) := by decide +kernel
theorem d_X0_append_40 : decode i_X0_append.2.1 40 = .ok (.putfield 18, 3) := by decide +kernel
theorem d_X0_append_43 : decode i_X0_append.2.1 43 = .ok (.iconst 1, 1) := by decide +kernel
theorem d_X0_append_44 : decode i_X0_append.2.1 44 = .ok (.ireturn, 1) := by decide +kernel
def V_X0_append (x0 : Nat) (x1 : Int) (x2 : Int) (h : Hp) (Q : Int → Hp → Prop) : Prop :=
  hK h x0 = 0 ∧ ((hI h x0 2 < 20 → (hK h x0 = 0 ∧ (hK h x0 = 0 ∧ (((-128 : Int) ≤ x1 ∧ x1 ≤ (127 : Int)) ∧ ((hK h (hR h x0 0) = 13 ∧ (0 : Int) ≤ hI h x0 2 ∧ hI h x0 2 < hL h (hR h x0 0) ∧ ((-128 : Int) ≤ x1 ∧ x1 ≤ (127 : Int))) ∧ ∀ h1 : Hp, h1 = wI h (hR h x0 0) (hI h x0 2) x1 → (hK h1 x0 = 0 ∧ (hK h1 x0 = 0 ∧ (((-128 : Int) ≤ x2 ∧ x2 ≤ (127 : Int)) ∧ ((hK h1 (hR h1 x0 1) = 13 ∧ (0 : Int) ≤ hI h1 x0 2 ∧ hI h1 x0 2 < hL h1 (hR h1 x0 1) ∧ ((-128 : Int) ≤ x2 ∧ x2 ≤ (127 : Int))) ∧ ∀ h2 : Hp, h2 = wI h1 (hR h1 x0 1) (hI h1 x0 2) x2 → (hK h2 x0 = 0 ∧ (((-2147483648 : Int) ≤ (hI h2 x0 2) + 1 ∧ (hI h2 x0 2) + 1 ≤ (2147483647 : Int)) ∧ (hK h2 x0 = 0 ∧ ∀ h3 : Hp, h3 = wI h2 x0 2 ((hI h2 x0 2) + 1) → (Q 1 h3))))))))))))) ∧ (¬ hI h x0 2 < 20 → (Q 0 h)))
theorem G_X0_append {x0 : Nat} {x1 : Int} {x2 : Int} (h : Hp) (Q : Int → Hp → Prop) (hV : V_X0_append x0 x1 x2 h Q) : C_X0_append x0 x1 x2 h Q := by
  unfold V_X0_append at hV
  show Go i_X0_append 0 [(0, .inr (.inr x0)), (1, .inl x1), (2, .inl x2)] [] h (qI Q)
  refine s_aload_n d_X0_append_0 rfl (ma 0 rfl) ?_
  obtain ⟨o, hV⟩ := hV
  refine f_RX0_18g rfl d_X0_append_1 o ?_
  refine s_bipush d_X0_append_4 (by decide) (okn rfl) ?_
  refine s_icmp_lt (tgt := 11) d_X0_append_6 (by decide) (fun c => ?_) (fun c => ?_)
  · have hV := hV.1 c
    refine s_aload_n d_X0_append_11 rfl (ma 0 rfl) ?_
    obtain ⟨o, hV⟩ := hV
    refine f_RX0_9g rfl d_X0_append_12 o ?_
    refine s_aload_n d_X0_append_15 rfl (ma 0 rfl) ?_
    obtain ⟨o, hV⟩ := hV
    refine f_RX0_18g rfl d_X0_append_16 o ?_
    refine s_iload_n d_X0_append_19 rfl (ma 1 rfl) ?_
    obtain ⟨o, hV⟩ := hV
    refine s_i2b d_X0_append_20 o ?_
    obtain ⟨o, hV⟩ := hV
    refine s_bast d_X0_append_21 o.1 o.2.1 o.2.2.1 o.2.2.2 ?_
    refine s_nmH (fun h1 eh1 => ?_)
    have hV := hV h1 eh1
    refine s_aload_n d_X0_append_22 rfl (ma 0 rfl) ?_
    obtain ⟨o, hV⟩ := hV
    refine f_RX0_15g rfl d_X0_append_23 o ?_
    refine s_aload_n d_X0_append_26 rfl (ma 0 rfl) ?_
    obtain ⟨o, hV⟩ := hV
    refine f_RX0_18g rfl d_X0_append_27 o ?_
    refine s_iload_n d_X0_append_30 rfl (ma 2 rfl) ?_
    obtain ⟨o, hV⟩ := hV
    refine s_i2b d_X0_append_31 o ?_
    obtain ⟨o, hV⟩ := hV
    refine s_bast d_X0_append_32 o.1 o.2.1 o.2.2.1 o.2.2.2 ?_
    refine s_nmH (fun h2 eh2 => ?_)
    have hV := hV h2 eh2
    refine s_aload_n d_X0_append_33 rfl (ma 0 rfl) ?_
    refine s_dup d_X0_append_34 rfl ?_
    obtain ⟨o, hV⟩ := hV
    refine f_RX0_18g rfl d_X0_append_35 o ?_
    refine s_iconst d_X0_append_38 (okn rfl) ?_
    obtain ⟨o, hV⟩ := hV
    refine s_iadd d_X0_append_39 o ?_
    obtain ⟨o, hV⟩ := hV
    refine f_RX0_18p rfl d_X0_append_40 o (fun h3 eh3 => ?_)
    have hV := hV h3 eh3
    refine s_iconst d_X0_append_43 (okn rfl) ?_
    exact s_iret d_X0_append_44 rfl (nar_z (Or.inr rfl)) ⟨_, rfl, hV⟩
  · have hV := hV.2 c
    refine s_iconst d_X0_append_9 (okn rfl) ?_
    exact s_iret d_X0_append_10 rfl (nar_z (Or.inl rfl)) ⟨_, rfl, hV⟩

theorem d_X0_firstWrong_0 : decode i_X0_firstWrong.2.1 0 = .ok (.iconst 0, 1) := by decide +kernel
theorem d_X0_firstWrong_1 : decode i_X0_firstWrong.2.1 1 = .ok (.istore_n 2, 1) := by decide +kernel
theorem d_X0_firstWrong_2 : decode i_X0_firstWrong.2.1 2 = .ok (.iload_n 2, 1) := by decide +kernel
theorem d_X0_firstWrong_3 : decode i_X0_firstWrong.2.1 3 = .ok (.aload_n 0, 1) := by decide +kernel
theorem d_X0_firstWrong_4 : decode i_X0_firstWrong.2.1 4 = .ok (.getfield 18, 3) := by decide +kernel
theorem d_X0_firstWrong_7 : decode i_X0_firstWrong.2.1 7 = .ok (.if_icmp .ge 30, 3) := by decide +kernel
theorem d_X0_firstWrong_10 : decode i_X0_firstWrong.2.1 10 = .ok (.aload_n 1, 1) := by decide +kernel
theorem d_X0_firstWrong_11 : decode i_X0_firstWrong.2.1 11 = .ok (.aload_n 0, 1) := by decide +kernel
theorem d_X0_firstWrong_12 : decode i_X0_firstWrong.2.1 12 = .ok (.getfield 9, 3) := by decide +kernel
theorem d_X0_firstWrong_15 : decode i_X0_firstWrong.2.1 15 = .ok (.iload_n 2, 1) := by decide +kernel
theorem d_X0_firstWrong_16 : decode i_X0_firstWrong.2.1 16 = .ok (.baload, 1) := by decide +kernel
theorem d_X0_firstWrong_17 : decode i_X0_firstWrong.2.1 17 = .ok (.invokevirtual 22, 3) := by decide +kernel
theorem d_X0_firstWrong_20 : decode i_X0_firstWrong.2.1 20 = .ok (.aload_n 0, 1) := by decide +kernel
theorem d_X0_firstWrong_21 : decode i_X0_firstWrong.2.1 21 = .ok (.getfield 15, 3) := by decide +kernel
theorem d_X0_firstWrong_24 : decode i_X0_firstWrong.2.1 24 = .ok (.iload_n 2, 1) := by decide +kernel
theorem d_X0_firstWrong_25 : decode i_X0_firstWrong.2.1 25 = .ok (.baload, 1) := by decide +kernel
theorem d_X0_firstWrong_26 : decode i_X0_firstWrong.2.1 26 = .ok (.if_icmp .eq 5, 3) := by decide +kernel
theorem d_X0_firstWrong_29 : decode i_X0_firstWrong.2.1 29 = .ok (.iload_n 2, 1) := by decide +kernel
theorem d_X0_firstWrong_30 : decode i_X0_firstWrong.2.1 30 = .ok (.ireturn, 1) := by decide +kernel
theorem d_X0_firstWrong_31 : decode i_X0_firstWrong.2.1 31 = .ok (.iinc 2 1, 3) := by decide +kernel
theorem d_X0_firstWrong_34 : decode i_X0_firstWrong.2.1 34 = .ok (.goto (-32), 3) := by decide +kernel
theorem d_X0_firstWrong_37 : decode i_X0_firstWrong.2.1 37 = .ok (.iconst (-1), 1) := by decide +kernel
theorem d_X0_firstWrong_38 : decode i_X0_firstWrong.2.1 38 = .ok (.ireturn, 1) := by decide +kernel
def BLp_X0_firstWrong_2 (x0 : Nat) (x1 : Nat) (P2 : Int → Hp → Prop) (x2 : Int) (h : Hp) (Q : Int → Hp → Prop) : Prop :=
  hK h x0 = 0 ∧ ((hI h x0 2 ≤ x2 → (Q (-1) h)) ∧ (¬ hI h x0 2 ≤ x2 → (hK h x0 = 0 ∧ ((hK h (hR h x0 0) = 13 ∧ (0 : Int) ≤ x2 ∧ x2 < hL h (hR h x0 0)) ∧ (hK h x1 = 2 ∧ C_X2_get x1 (hI h (hR h x0 0) x2) h (fun r2 h1 => (hK h1 x0 = 0 ∧ ((hK h1 (hR h1 x0 1) = 13 ∧ (0 : Int) ≤ x2 ∧ x2 < hL h1 (hR h1 x0 1)) ∧ ((r2 = hI h1 (hR h1 x0 1) x2 → (((-2147483648 : Int) ≤ x2 + 1 ∧ x2 + 1 ≤ (2147483647 : Int)) ∧ (P2 (x2 + 1) h1))) ∧ (¬ r2 = hI h1 (hR h1 x0 1) x2 → (Q x2 h1)))))))))))
def Lp_X0_firstWrong_2 (x0 : Nat) (x1 : Nat) (x2 : Int) (h : Hp) (Q : Int → Hp → Prop) : Prop := ∀ P2 : Int → Hp → Prop, (∀ (x2 : Int) (h : Hp), BLp_X0_firstWrong_2 x0 x1 P2 x2 h Q → P2 x2 h) → P2 x2 h
theorem Lp_X0_firstWrong_2_ind {x0 : Nat} {x1 : Nat} {Q : Int → Hp → Prop} (I : Int → Hp → Prop) (μ : Int → Hp → Nat) (hs : ∀ (P2 : Int → Hp → Prop) (x2 : Int) (h : Hp), I x2 h → (∀ (x2' : Int) (h' : Hp), I x2' h' → μ x2' h' < μ x2 h → P2 x2' h') → BLp_X0_firstWrong_2 x0 x1 P2 x2 h Q) : ∀ (x2 : Int) (h : Hp), I x2 h → Lp_X0_firstWrong_2 x0 x1 x2 h Q := by
  intro x2 h hI P2 hP
  have key : ∀ (n : Nat) (x2 : Int) (h : Hp), I x2 h → μ x2 h < n → P2 x2 h := by
    intro n
    induction n with
    | zero => intro x2 h _ hl; exact absurd hl (Nat.not_lt_zero _)
    | succ n ih => intro x2 h hi hl; exact hP x2 h (hs P2 x2 h hi (fun x2 h' hi' hl' => ih x2 h' hi' (by omega)))
  exact key _ x2 h hI (Nat.lt_succ_self _)
theorem GLp_X0_firstWrong_2 (x0 : Nat) (x1 : Nat) (x2 : Int) (h : Hp) (Q : Int → Hp → Prop) (hV : Lp_X0_firstWrong_2 x0 x1 x2 h Q) : Go i_X0_firstWrong 2 [(0, .inr (.inr x0)), (1, .inr (.inr x1)), (2, .inl x2)] [] h (qI Q) := by
  refine hV (fun x2 h => Go i_X0_firstWrong 2 [(0, .inr (.inr x0)), (1, .inr (.inr x1)), (2, .inl x2)] [] h (qI Q)) (fun x2 h hV => ?_)
  unfold BLp_X0_firstWrong_2 at hV
  have hP2 : ∀ (x2 : Int) (h : Hp), Go i_X0_firstWrong 2 [(0, .inr (.inr x0)), (1, .inr (.inr x1)), (2, .inl x2)] [] h (qI Q) → Go i_X0_firstWrong 2 [(0, .inr (.inr x0)), (1, .inr (.inr x1)), (2, .inl x2)] [] h (qI Q) := fun _ h z => z
  refine s_iload_n d_X0_firstWrong_2 rfl (ma 2 rfl) ?_
  refine s_aload_n d_X0_firstWrong_3 rfl (ma 0 rfl) ?_
  obtain ⟨o, hV⟩ := hV
  refine f_RX0_18g rfl d_X0_firstWrong_4 o ?_
  refine s_icmp_ge (tgt := 37) d_X0_firstWrong_7 (by decide) (fun c => ?_) (fun c => ?_)
  · have hV := hV.1 c
    refine s_iconst d_X0_firstWrong_37 (okn rfl) ?_
    exact s_iret d_X0_firstWrong_38 rfl rfl ⟨_, rfl, hV⟩
  · have hV := hV.2 c
    refine s_aload_n d_X0_firstWrong_10 rfl (ma 1 rfl) ?_
    refine s_aload_n d_X0_firstWrong_11 rfl (ma 0 rfl) ?_
    obtain ⟨o, hV⟩ := hV
    refine f_RX0_9g rfl d_X0_firstWrong_12 o ?_
    refine s_iload_n d_X0_firstWrong_15 rfl (ma 2 rfl) ?_
    obtain ⟨o, hV⟩ := hV
    refine s_bald d_X0_firstWrong_16 o.1 o.2.1 o.2.2 ?_
    obtain ⟨o, hV⟩ := hV
    refine v_RX0_22 rfl (Nat.le_of_ble_eq_true rfl) d_X0_firstWrong_17 o (Nat.le_of_ble_eq_true rfl) hV (fun r2 h1 hV => ?_)
    refine s_aload_n d_X0_firstWrong_20 rfl (ma 0 rfl) ?_
    obtain ⟨o, hV⟩ := hV
    refine f_RX0_15g rfl d_X0_firstWrong_21 o ?_
    refine s_iload_n d_X0_firstWrong_24 rfl (ma 2 rfl) ?_
    obtain ⟨o, hV⟩ := hV
    refine s_bald d_X0_firstWrong_25 o.1 o.2.1 o.2.2 ?_
    refine s_icmp_eq (tgt := 31) d_X0_firstWrong_26 (by decide) (fun c => ?_) (fun c => ?_)
    · have hV := hV.1 c
      obtain ⟨o, hV⟩ := hV
      refine s_iinc (lv' := [(2, .inl (x2 + 1)), (0, .inr (.inr x0)), (1, .inr (.inr x1))]) d_X0_firstWrong_31 (ma 2 rfl) o (Nat.le_of_ble_eq_true rfl) rfl ?_
      refine s_goto (tgt := 2) d_X0_firstWrong_34 (by decide) ?_
      refine s_pick (lv' := [(0, .inr (.inr x0)), (1, .inr (.inr x1)), (2, .inl (x2 + 1))]) [1, 2, 0] rfl ?_
      exact hP2 _ _ hV
    · have hV := hV.2 c
      refine s_iload_n d_X0_firstWrong_29 rfl (ma 2 rfl) ?_
      exact s_iret d_X0_firstWrong_30 rfl rfl ⟨_, rfl, hV⟩
def V_X0_firstWrong (x0 : Nat) (x1 : Nat) (h : Hp) (Q : Int → Hp → Prop) : Prop :=
  Lp_X0_firstWrong_2 x0 x1 0 h Q
theorem G_X0_firstWrong {x0 : Nat} {x1 : Nat} (h : Hp) (Q : Int → Hp → Prop) (hV : V_X0_firstWrong x0 x1 h Q) : C_X0_firstWrong x0 x1 h Q := by
  unfold V_X0_firstWrong at hV
  show Go i_X0_firstWrong 0 [(0, .inr (.inr x0)), (1, .inr (.inr x1))] [] h (qI Q)
  refine s_iconst d_X0_firstWrong_0 (okn rfl) ?_
  refine s_istore_n (lv' := [(2, .inl 0), (0, .inr (.inr x0)), (1, .inr (.inr x1))]) d_X0_firstWrong_1 rfl (Nat.le_of_ble_eq_true rfl) rfl ?_
  refine s_pick (lv' := [(0, .inr (.inr x0)), (1, .inr (.inr x1)), (2, .inl 0)]) [1, 2, 0] rfl ?_
  exact GLp_X0_firstWrong_2 _ _ _ _ _ hV

theorem d_J_bitCount_0 : decode i_J_bitCount.2.1 0 = .ok (.iload_n 0, 1) := by decide +kernel
theorem d_J_bitCount_1 : decode i_J_bitCount.2.1 1 = .ok (.iload_n 0, 1) := by decide +kernel
theorem d_J_bitCount_2 : decode i_J_bitCount.2.1 2 = .ok (.iconst 1, 1) := by decide +kernel
theorem d_J_bitCount_3 : decode i_J_bitCount.2.1 3 = .ok (.iushr, 1) := by decide +kernel
theorem d_J_bitCount_4 : decode i_J_bitCount.2.1 4 = .ok (.ldc_w 265, 3) := by decide +kernel
theorem d_J_bitCount_7 : decode i_J_bitCount.2.1 7 = .ok (.iand, 1) := by decide +kernel
theorem d_J_bitCount_8 : decode i_J_bitCount.2.1 8 = .ok (.isub, 1) := by decide +kernel
theorem d_J_bitCount_9 : decode i_J_bitCount.2.1 9 = .ok (.istore_n 0, 1) := by decide +kernel
theorem d_J_bitCount_10 : decode i_J_bitCount.2.1 10 = .ok (.iload_n 0, 1) := by decide +kernel
theorem d_J_bitCount_11 : decode i_J_bitCount.2.1 11 = .ok (.ldc_w 266, 3) := by decide +kernel
theorem d_J_bitCount_14 : decode i_J_bitCount.2.1 14 = .ok (.iand, 1) := by decide +kernel
theorem d_J_bitCount_15 : decode i_J_bitCount.2.1 15 = .ok (.iload_n 0, 1) := by decide +kernel
theorem d_J_bitCount_16 : decode i_J_bitCount.2.1 16 = .ok (.iconst 2, 1) := by decide +kernel
theorem d_J_bitCount_17 : decode i_J_bitCount.2.1 17 = .ok (.iushr, 1) := by decide +kernel
theorem d_J_bitCount_18 : decode i_J_bitCount.2.1 18 = .ok (.ldc_w 266, 3) := by decide +kernel
theorem d_J_bitCount_21 : decode i_J_bitCount.2.1 21 = .ok (.iand, 1) := by decide +kernel
theorem d_J_bitCount_22 : decode i_J_bitCount.2.1 22 = .ok (.iadd, 1) := by decide +kernel
theorem d_J_bitCount_23 : decode i_J_bitCount.2.1 23 = .ok (.istore_n 0, 1) := by decide +kernel
theorem d_J_bitCount_24 : decode i_J_bitCount.2.1 24 = .ok (.iload_n 0, 1) := by decide +kernel
theorem d_J_bitCount_25 : decode i_J_bitCount.2.1 25 = .ok (.iload_n 0, 1) := by decide +kernel
theorem d_J_bitCount_26 : decode i_J_bitCount.2.1 26 = .ok (.iconst 4, 1) := by decide +kernel
theorem d_J_bitCount_27 : decode i_J_bitCount.2.1 27 = .ok (.iushr, 1) := by decide +kernel
theorem d_J_bitCount_28 : decode i_J_bitCount.2.1 28 = .ok (.iadd, 1) := by decide +kernel
theorem d_J_bitCount_29 : decode i_J_bitCount.2.1 29 = .ok (.ldc_w 267, 3) := by decide +kernel
theorem d_J_bitCount_32 : decode i_J_bitCount.2.1 32 = .ok (.iand, 1) := by decide +kernel
theorem d_J_bitCount_33 : decode i_J_bitCount.2.1 33 = .ok (.istore_n 0, 1) := by decide +kernel
theorem d_J_bitCount_34 : decode i_J_bitCount.2.1 34 = .ok (.iload_n 0, 1) := by decide +kernel
theorem d_J_bitCount_35 : decode i_J_bitCount.2.1 35 = .ok (.iload_n 0, 1) := by decide +kernel
theorem d_J_bitCount_36 : decode i_J_bitCount.2.1 36 = .ok (.bipush 8, 2) := by decide +kernel
theorem d_J_bitCount_38 : decode i_J_bitCount.2.1 38 = .ok (.iushr, 1) := by decide +kernel
theorem d_J_bitCount_39 : decode i_J_bitCount.2.1 39 = .ok (.iadd, 1) := by decide +kernel
theorem d_J_bitCount_40 : decode i_J_bitCount.2.1 40 = .ok (.istore_n 0, 1) := by decide +kernel
theorem d_J_bitCount_41 : decode i_J_bitCount.2.1 41 = .ok (.iload_n 0, 1) := by decide +kernel
theorem d_J_bitCount_42 : decode i_J_bitCount.2.1 42 = .ok (.iload_n 0, 1) := by decide +kernel
theorem d_J_bitCount_43 : decode i_J_bitCount.2.1 43 = .ok (.bipush 16, 2) := by decide +kernel
theorem d_J_bitCount_45 : decode i_J_bitCount.2.1 45 = .ok (.iushr, 1) := by decide +kernel
theorem d_J_bitCount_46 : decode i_J_bitCount.2.1 46 = .ok (.iadd, 1) := by decide +kernel
theorem d_J_bitCount_47 : decode i_J_bitCount.2.1 47 = .ok (.istore_n 0, 1) := by decide +kernel
theorem d_J_bitCount_48 : decode i_J_bitCount.2.1 48 = .ok (.iload_n 0, 1) := by decide +kernel
theorem d_J_bitCount_49 : decode i_J_bitCount.2.1 49 = .ok (.bipush 63, 2) := by decide +kernel
theorem d_J_bitCount_51 : decode i_J_bitCount.2.1 51 = .ok (.iand, 1) := by decide +kernel
theorem d_J_bitCount_52 : decode i_J_bitCount.2.1 52 = .ok (.ireturn, 1) := by decide +kernel
def V_J_bitCount (x0 : Int) (h : Hp) (Q : Int → Hp → Prop) : Prop :=
  ((-2147483648 : Int) ≤ x0 - (zAnd (zUshr x0 1) 1431655765) ∧ x0 - (zAnd (zUshr x0 1) 1431655765) ≤ (2147483647 : Int)) ∧ (∀ x0_1 : Int, x0_1 = x0 - (zAnd (zUshr x0 1) 1431655765) → (((-2147483648 : Int) ≤ (zAnd x0_1 858993459) + (zAnd (zUshr x0_1 2) 858993459) ∧ (zAnd x0_1 858993459) + (zAnd (zUshr x0_1 2) 858993459) ≤ (2147483647 : Int)) ∧ (∀ x0_2 : Int, x0_2 = (zAnd x0_1 858993459) + (zAnd (zUshr x0_1 2) 858993459) → (((-2147483648 : Int) ≤ x0_2 + (zUshr x0_2 4) ∧ x0_2 + (zUshr x0_2 4) ≤ (2147483647 : Int)) ∧ (∀ x0_3 : Int, x0_3 = zAnd (x0_2 + (zUshr x0_2 4)) 252645135 → (((-2147483648 : Int) ≤ x0_3 + (zUshr x0_3 8) ∧ x0_3 + (zUshr x0_3 8) ≤ (2147483647 : Int)) ∧ (∀ x0_4 : Int, x0_4 = x0_3 + (zUshr x0_3 8) → (((-2147483648 : Int) ≤ x0_4 + (zUshr x0_4 16) ∧ x0_4 + (zUshr x0_4 16) ≤ (2147483647 : Int)) ∧ (∀ x0_5 : Int, x0_5 = x0_4 + (zUshr x0_4 16) → (Q (zAnd x0_5 63) h))))))))))
theorem G_J_bitCount {x0 : Int} (h : Hp) (Q : Int → Hp → Prop) (hV : V_J_bitCount x0 h Q) : C_J_bitCount x0 h Q := by
  unfold V_J_bitCount at hV
  show Go i_J_bitCount 0 [(0, .inl x0)] [] h (qI Q)
  refine s_iload_n d_J_bitCount_0 rfl (ma 0 rfl) ?_
  refine s_iload_n d_J_bitCount_1 rfl (ma 0 rfl) ?_
  refine s_iconst d_J_bitCount_2 (okn rfl) ?_
  refine s_iushr d_J_bitCount_3 ?_
  refine s_ldcw (n := 1431655765) d_J_bitCount_4 k_RJ6_265 (by decide) (okn rfl) ?_
  refine s_iand d_J_bitCount_7 ?_
  obtain ⟨o, hV⟩ := hV
  refine s_isub d_J_bitCount_8 o ?_
  refine s_nmI (fun x0_1 ex0_1 => ?_)
  have hV := hV x0_1 ex0_1
  refine s_istore_n (lv' := [(0, .inl x0_1)]) d_J_bitCount_9 rfl (Nat.le_of_ble_eq_true rfl) rfl ?_
  refine s_iload_n d_J_bitCount_10 rfl (ma 0 rfl) ?_
  refine s_ldcw (n := 858993459) d_J_bitCount_11 k_RJ6_266 (by decide) (okn rfl) ?_
  refine s_iand d_J_bitCount_14 ?_
  refine s_iload_n d_J_bitCount_15 rfl (ma 0 rfl) ?_
  refine s_iconst d_J_bitCount_16 (okn rfl) ?_
  refine s_iushr d_J_bitCount_17 ?_
  refine s_ldcw (n := 858993459) d_J_bitCount_18 k_RJ6_266 (by decide) (okn rfl) ?_
  refine s_iand d_J_bitCount_21 ?_
  obtain ⟨o, hV⟩ := hV
  refine s_iadd d_J_bitCount_22 o ?_
  refine s_nmI (fun x0_2 ex0_2 => ?_)
  have hV := hV x0_2 ex0_2
  refine s_istore_n (lv' := [(0, .inl x0_2)]) d_J_bitCount_23 rfl (Nat.le_of_ble_eq_true rfl) rfl ?_
  refine s_iload_n d_J_bitCount_24 rfl (ma 0 rfl) ?_
  refine s_iload_n d_J_bitCount_25 rfl (ma 0 rfl) ?_
  refine s_iconst d_J_bitCount_26 (okn rfl) ?_
  refine s_iushr d_J_bitCount_27 ?_
  obtain ⟨o, hV⟩ := hV
  refine s_iadd d_J_bitCount_28 o ?_
  refine s_ldcw (n := 252645135) d_J_bitCount_29 k_RJ6_267 (by decide) (okn rfl) ?_
  refine s_iand d_J_bitCount_32 ?_
  refine s_nmI (fun x0_3 ex0_3 => ?_)
  have hV := hV x0_3 ex0_3
  refine s_istore_n (lv' := [(0, .inl x0_3)]) d_J_bitCount_33 rfl (Nat.le_of_ble_eq_true rfl) rfl ?_
  refine s_iload_n d_J_bitCount_34 rfl (ma 0 rfl) ?_
  refine s_iload_n d_J_bitCount_35 rfl (ma 0 rfl) ?_
  refine s_bipush d_J_bitCount_36 (by decide) (okn rfl) ?_
  refine s_iushr d_J_bitCount_38 ?_
  obtain ⟨o, hV⟩ := hV
  refine s_iadd d_J_bitCount_39 o ?_
  refine s_nmI (fun x0_4 ex0_4 => ?_)
  have hV := hV x0_4 ex0_4
  refine s_istore_n (lv' := [(0, .inl x0_4)]) d_J_bitCount_40 rfl (Nat.le_of_ble_eq_true rfl) rfl ?_
  refine s_iload_n d_J_bitCount_41 rfl (ma 0 rfl) ?_
  refine s_iload_n d_J_bitCount_42 rfl (ma 0 rfl) ?_
  refine s_bipush d_J_bitCount_43 (by decide) (okn rfl) ?_
  refine s_iushr d_J_bitCount_45 ?_
  obtain ⟨o, hV⟩ := hV
  refine s_iadd d_J_bitCount_46 o ?_
  refine s_nmI (fun x0_5 ex0_5 => ?_)
  have hV := hV x0_5 ex0_5
  refine s_istore_n (lv' := [(0, .inl x0_5)]) d_J_bitCount_47 rfl (Nat.le_of_ble_eq_true rfl) rfl ?_
  refine s_iload_n d_J_bitCount_48 rfl (ma 0 rfl) ?_
  refine s_bipush d_J_bitCount_49 (by decide) (okn rfl) ?_
  refine s_iand d_J_bitCount_51 ?_
  exact s_iret d_J_bitCount_52 rfl rfl ⟨_, rfl, hV⟩
