/-! printed by wip/gen/gen.py: ModelA -/
theorem d_X12_init_0 : decode i_X12_init.2.1 0 = .ok (.aload_n 0, 1) := by decide +kernel
theorem d_X12_init_1 : decode i_X12_init.2.1 1 = .ok (.invokespecial 1, 3) := by decide +kernel
theorem d_X12_init_4 : decode i_X12_init.2.1 4 = .ok (.aload_n 0, 1) := by decide +kernel
theorem d_X12_init_5 : decode i_X12_init.2.1 5 = .ok (.sipush 240, 3) := by decide +kernel
theorem d_X12_init_8 : decode i_X12_init.2.1 8 = .ok (.newarray .int, 2) := by decide +kernel
theorem d_X12_init_10 : decode i_X12_init.2.1 10 = .ok (.putfield 7, 3) := by decide +kernel
theorem d_X12_init_13 : decode i_X12_init.2.1 13 = .ok (.aload_n 0, 1) := by decide +kernel
theorem d_X12_init_14 : decode i_X12_init.2.1 14 = .ok (.iconst (-1), 1) := by decide +kernel
theorem d_X12_init_15 : decode i_X12_init.2.1 15 = .ok (.putfield 13, 3) := by decide +kernel
theorem d_X12_init_18 : decode i_X12_init.2.1 18 = .ok (.aload_n 0, 1) := by decide +kernel
theorem d_X12_init_19 : decode i_X12_init.2.1 19 = .ok (.bipush 60, 2) := by decide +kernel
theorem d_X12_init_21 : decode i_X12_init.2.1 21 = .ok (.newarray .int, 2) := by decide +kernel
theorem d_X12_init_23 : decode i_X12_init.2.1 23 = .ok (.putfield 17, 3) := by decide +kernel
theorem d_X12_init_26 : decode i_X12_init.2.1 26 = .ok (.aload_n 0, 1) := by decide +kernel
theorem d_X12_init_27 : decode i_X12_init.2.1 27 = .ok (.bipush 6, 2) := by decide +kernel
theorem d_X12_init_29 : decode i_X12_init.2.1 29 = .ok (.newarray .int, 2) := by decide +kernel
theorem d_X12_init_31 : decode i_X12_init.2.1 31 = .ok (.putfield 20, 3) := by decide +kernel
theorem d_X12_init_34 : decode i_X12_init.2.1 34 = .ok (.aload_n 0, 1) := by decide +kernel
theorem d_X12_init_35 : decode i_X12_init.2.1 35 = .ok (.bipush 48, 2) := by decide +kernel
theorem d_X12_init_37 : decode i_X12_init.2.1 37 = .ok (.newarray .int, 2) := by decide +kernel
theorem d_X12_init_39 : decode i_X12_init.2.1 39 = .ok (.putfield 23, 3) := by decide +kernel
theorem d_X12_init_42 : decode i_X12_init.2.1 42 = .ok (.aload_n 0, 1) := by decide +kernel
theorem d_X12_init_43 : decode i_X12_init.2.1 43 = .ok (.bipush 6, 2) := by decide +kernel
theorem d_X12_init_45 : decode i_X12_init.2.1 45 = .ok (.newarray .int, 2) := by decide +kernel
theorem d_X12_init_47 : decode i_X12_init.2.1 47 = .ok (.putfield 26, 3) := by decide +kernel
theorem d_X12_init_50 : decode i_X12_init.2.1 50 = .ok (.aload_n 0, 1) := by decide +kernel
theorem d_X12_init_51 : decode i_X12_init.2.1 51 = .ok (.bipush 48, 2) := by decide +kernel
theorem d_X12_init_53 : decode i_X12_init.2.1 53 = .ok (.newarray .int, 2) := by decide +kernel
theorem d_X12_init_55 : decode i_X12_init.2.1 55 = .ok (.putfield 29, 3) := by decide +kernel
theorem d_X12_init_58 : decode i_X12_init.2.1 58 = .ok (.aload_n 0, 1) := by decide +kernel
theorem d_X12_init_59 : decode i_X12_init.2.1 59 = .ok (.bipush 103, 2) := by decide +kernel
theorem d_X12_init_61 : decode i_X12_init.2.1 61 = .ok (.newarray .int, 2) := by decide +kernel
theorem d_X12_init_63 : decode i_X12_init.2.1 63 = .ok (.putfield 32, 3) := by decide +kernel
theorem d_X12_init_66 : decode i_X12_init.2.1 66 = .ok (.aload_n 0, 1) := by decide +kernel
theorem d_X12_init_67 : decode i_X12_init.2.1 67 = .ok (.sipush 3090, 3) := by decide +kernel
theorem d_X12_init_70 : decode i_X12_init.2.1 70 = .ok (.newarray .int, 2) := by decide +kernel
theorem d_X12_init_72 : decode i_X12_init.2.1 72 = .ok (.putfield 35, 3) := by decide +kernel
theorem d_X12_init_75 : decode i_X12_init.2.1 75 = .ok (.aload_n 0, 1) := by decide +kernel
theorem d_X12_init_76 : decode i_X12_init.2.1 76 = .ok (.sipush 206, 3) := by decide +kernel
theorem d_X12_init_79 : decode i_X12_init.2.1 79 = .ok (.newarray .int, 2) := by decide +kernel
theorem d_X12_init_81 : decode i_X12_init.2.1 81 = .ok (.putfield 38, 3) := by decide +kernel
theorem d_X12_init_84 : decode i_X12_init.2.1 84 = .ok (.aload_n 0, 1) := by decide +kernel
theorem d_X12_init_85 : decode i_X12_init.2.1 85 = .ok (.iconst 2, 1) := by decide +kernel
theorem d_X12_init_86 : decode i_X12_init.2.1 86 = .ok (.newarray .int, 2) := by decide +kernel
theorem d_X12_init_88 : decode i_X12_init.2.1 88 = .ok (.putfield 41, 3) := by decide +kernel
theorem d_X12_init_91 : decode i_X12_init.2.1 91 = .ok (.aload_n 0, 1) := by decide +kernel
theorem d_X12_init_92 : decode i_X12_init.2.1 92 = .ok (.iconst 2, 1) := by decide +kernel
theorem d_X12_init_93 : decode i_X12_init.2.1 93 = .ok (.newarray .boolean, 2) := by decide +kernel
theorem d_X12_init_95 : decode i_X12_init.2.1 95 = .ok (.putfield 44, 3) := by decide +kernel
theorem d_X12_init_98 : decode i_X12_init.2.1 98 = .ok (.aload_n 0, 1) := by decide +kernel
theorem d_X12_init_99 : decode i_X12_init.2.1 99 = .ok (.bipush 6, 2) := by decide +kernel
theorem d_X12_init_101 : decode i_X12_init.2.1 101 = .ok (.newarray .int, 2) := by decide +kernel
theorem d_X12_init_103 : decode i_X12_init.2.1 103 = .ok (.putfield 48, 3) := by decide +kernel
theorem d_X12_init_106 : decode i_X12_init.2.1 106 = .ok (.aload_n 0, 1) := by decide +kernel
theorem d_X12_init_107 : decode i_X12_init.2.1 107 = .ok (.bipush 6, 2) := by decide +kernel
theorem d_X12_init_109 : decode i_X12_init.2.1 109 = .ok (.newarray .int, 2) := by decide +kernel
theorem d_X12_init_111 : decode i_X12_init.2.1 111 = .ok (.putfield 51, 3) := by decide +kernel
theorem d_X12_init_114 : decode i_X12_init.2.1 114 = .ok (.aload_n 0, 1) := by decide +kernel
theorem d_X12_init_115 : decode i_X12_init.2.1 115 = .ok (.bipush 6, 2) := by decide +kernel
theorem d_X12_init_117 : decode i_X12_init.2.1 117 = .ok (.newarray .boolean, 2) := by decide +kernel
theorem d_X12_init_119 : decode i_X12_init.2.1 119 = .ok (.putfield 54, 3) := by decide +kernel
theorem d_X12_init_122 : decode i_X12_init.2.1 122 = .ok (.aload_n 0, 1) := by decide +kernel
theorem d_X12_init_123 : decode i_X12_init.2.1 123 = .ok (.bipush 20, 2) := by decide +kernel
theorem d_X12_init_125 : decode i_X12_init.2.1 125 = .ok (.newarray .int, 2) := by decide +kernel
theorem d_X12_init_127 : decode i_X12_init.2.1 127 = .ok (.putfield 57, 3) := by decide +kernel
theorem d_X12_init_130 : decode i_X12_init.2.1 130 = .ok (.aload_n 0, 1) := by decide +kernel
theorem d_X12_init_131 : decode i_X12_init.2.1 131 = .ok (.bipush 20, 2) := by decide +kernel
theorem d_X12_init_133 : decode i_X12_init.2.1 133 = .ok (.newarray .int, 2) := by decide +kernel
theorem d_X12_init_135 : decode i_X12_init.2.1 135 = .ok (.putfield 60, 3) := by decide +kernel
theorem d_X12_init_138 : decode i_X12_init.2.1 138 = .ok (.aload_n 0, 1) := by decide +kernel
theorem d_X12_init_139 : decode i_X12_init.2.1 139 = .ok (.sipush 15360, 3) := by decide +kernel
theorem d_X12_init_142 : decode i_X12_init.2.1 142 = .ok (.newarray .int, 2) := by decide +kernel
theorem d_X12_init_144 : decode i_X12_init.2.1 144 = .ok (.putfield 63, 3) := by decide +kernel
theorem d_X12_init_147 : decode i_X12_init.2.1 147 = .ok (.aload_n 0, 1) := by decide +kernel
theorem d_X12_init_148 : decode i_X12_init.2.1 148 = .ok (.sipush 15360, 3) := by decide +kernel
theorem d_X12_init_151 : decode i_X12_init.2.1 151 = .ok (.newarray .int, 2) := by decide +kernel
theorem d_X12_init_153 : decode i_X12_init.2.1 153 = .ok (.putfield 66, 3) := by decide +kernel
theorem d_X12_init_156 : decode i_X12_init.2.1 156 = .ok (.aload_n 0, 1) := by decide +kernel
theorem d_X12_init_157 : decode i_X12_init.2.1 157 = .ok (.sipush 15360, 3) := by decide +kernel
theorem d_X12_init_160 : decode i_X12_init.2.1 160 = .ok (.newarray .int, 2) := by decide +kernel
theorem d_X12_init_162 : decode i_X12_init.2.1 162 = .ok (.putfield 69, 3) := by decide +kernel
theorem d_X12_init_165 : decode i_X12_init.2.1 165 = .ok (.aload_n 0, 1) := by decide +kernel
theorem d_X12_init_166 : decode i_X12_init.2.1 166 = .ok (.sipush 3660, 3) := by decide +kernel
theorem d_X12_init_169 : decode i_X12_init.2.1 169 = .ok (.newarray .int, 2) := by decide +kernel
theorem d_X12_init_171 : decode i_X12_init.2.1 171 = .ok (.putfield 72, 3) := by decide +kernel
theorem d_X12_init_174 : decode i_X12_init.2.1 174 = .ok (.aload_n 0, 1) := by decide +kernel
theorem d_X12_init_175 : decode i_X12_init.2.1 175 = .ok (.bipush 61, 2) := by decide +kernel
theorem d_X12_init_177 : decode i_X12_init.2.1 177 = .ok (.newarray .int, 2) := by decide +kernel
theorem d_X12_init_179 : decode i_X12_init.2.1 179 = .ok (.putfield 75, 3) := by decide +kernel
theorem d_X12_init_182 : decode i_X12_init.2.1 182 = .ok (.aload_n 0, 1) := by decide +kernel
theorem d_X12_init_183 : decode i_X12_init.2.1 183 = .ok (.bipush 61, 2) := by decide +kernel
theorem d_X12_init_185 : decode i_X12_init.2.1 185 = .ok (.newarray .int, 2) := by decide +kernel
theorem d_X12_init_187 : decode i_X12_init.2.1 187 = .ok (.putfield 78, 3) := by decide +kernel
theorem d_X12_init_190 : decode i_X12_init.2.1 190 = .ok (.aload_n 0, 1) := by decide +kernel
theorem d_X12_init_191 : decode i_X12_init.2.1 191 = .ok (.bipush 61, 2) := by decide +kernel
theorem d_X12_init_193 : decode i_X12_init.2.1 193 = .ok (.newarray .int, 2) := by decide +kernel
theorem d_X12_init_195 : decode i_X12_init.2.1 195 = .ok (.putfield 81, 3) := by decide +kernel
theorem d_X12_init_198 : decode i_X12_init.2.1 198 = .ok (.aload_n 0, 1) := by decide +kernel
theorem d_X12_init_199 : decode i_X12_init.2.1 199 = .ok (.bipush 120, 2) := by decide +kernel
theorem d_X12_init_201 : decode i_X12_init.2.1 201 = .ok (.newarray .int, 2) := by decide +kernel
theorem d_X12_init_203 : decode i_X12_init.2.1 203 = .ok (.putfield 84, 3) := by decide +kernel
theorem d_X12_init_206 : decode i_X12_init.2.1 206 = .ok (.aload_n 0, 1) := by decide +kernel
theorem d_X12_init_207 : decode i_X12_init.2.1 207 = .ok (.bipush 6, 2) := by decide +kernel
theorem d_X12_init_209 : decode i_X12_init.2.1 209 = .ok (.newarray .int, 2) := by decide +kernel
theorem d_X12_init_211 : decode i_X12_init.2.1 211 = .ok (.putfield 87, 3) := by decide +kernel
theorem d_X12_init_214 : decode i_X12_init.2.1 214 = .ok (.return_, 1) := by decide +kernel
def V_X12_init (x0 : Nat) (h : Hp) (Q : Hp → Prop) : Prop :=
  hK h x0 = 11 ∧ (((0 : Int) ≤ 240 ∧ 240 ≤ (100000000 : Int)) ∧ ∀ n1 : Nat, n1 = hN h → ∀ h2 : Hp, h2 = al h 12 240 (Int.toNat 240) → (hK h2 x0 = 11 ∧ ∀ h3 : Hp, h3 = wR h2 x0 1 n1 → (hK h3 x0 = 11 ∧ ∀ h4 : Hp, h4 = wI h3 x0 3 (-1) → (((0 : Int) ≤ 60 ∧ 60 ≤ (100000000 : Int)) ∧ ∀ n5 : Nat, n5 = hN h4 → ∀ h6 : Hp, h6 = al h4 12 60 (Int.toNat 60) → (hK h6 x0 = 11 ∧ ∀ h7 : Hp, h7 = wR h6 x0 7 n5 → (((0 : Int) ≤ 6 ∧ 6 ≤ (100000000 : Int)) ∧ ∀ n8 : Nat, n8 = hN h7 → ∀ h9 : Hp, h9 = al h7 12 6 (Int.toNat 6) → (hK h9 x0 = 11 ∧ ∀ h10 : Hp, h10 = wR h9 x0 8 n8 → (((0 : Int) ≤ 48 ∧ 48 ≤ (100000000 : Int)) ∧ ∀ n11 : Nat, n11 = hN h10 → ∀ h12 : Hp, h12 = al h10 12 48 (Int.toNat 48) → (hK h12 x0 = 11 ∧ ∀ h13 : Hp, h13 = wR h12 x0 9 n11 → (((0 : Int) ≤ 6 ∧ 6 ≤ (100000000 : Int)) ∧ ∀ n14 : Nat, n14 = hN h13 → ∀ h15 : Hp, h15 = al h13 12 6 (Int.toNat 6) → (hK h15 x0 = 11 ∧ ∀ h16 : Hp, h16 = wR h15 x0 12 n14 → (((0 : Int) ≤ 48 ∧ 48 ≤ (100000000 : Int)) ∧ ∀ n17 : Nat, n17 = hN h16 → ∀ h18 : Hp, h18 = al h16 12 48 (Int.toNat 48) → (hK h18 x0 = 11 ∧ ∀ h19 : Hp, h19 = wR h18 x0 13 n17 → (((0 : Int) ≤ 103 ∧ 103 ≤ (100000000 : Int)) ∧ ∀ n20 : Nat, n20 = hN h19 → ∀ h21 : Hp, h21 = al h19 12 103 (Int.toNat 103) → (hK h21 x0 = 11 ∧ ∀ h22 : Hp, h22 = wR h21 x0 14 n20 → (((0 : Int) ≤ 3090 ∧ 3090 ≤ (100000000 : Int)) ∧ ∀ n23 : Nat, n23 = hN h22 → ∀ h24 : Hp, h24 = al h22 12 3090 (Int.toNat 3090) → (hK h24 x0 = 11 ∧ ∀ h25 : Hp, h25 = wR h24 x0 15 n23 → (((0 : Int) ≤ 206 ∧ 206 ≤ (100000000 : Int)) ∧ ∀ n26 : Nat, n26 = hN h25 → ∀ h27 : Hp, h27 = al h25 12 206 (Int.toNat 206) → (hK h27 x0 = 11 ∧ ∀ h28 : Hp, h28 = wR h27 x0 17 n26 → (((0 : Int) ≤ 2 ∧ 2 ≤ (100000000 : Int)) ∧ ∀ n29 : Nat, n29 = hN h28 → ∀ h30 : Hp, h30 = al h28 12 2 (Int.toNat 2) → (hK h30 x0 = 11 ∧ ∀ h31 : Hp, h31 = wR h30 x0 18 n29 → (((0 : Int) ≤ 2 ∧ 2 ≤ (100000000 : Int)) ∧ ∀ n32 : Nat, n32 = hN h31 → ∀ h33 : Hp, h33 = al h31 15 2 (Int.toNat 2) → (hK h33 x0 = 11 ∧ ∀ h34 : Hp, h34 = wR h33 x0 19 n32 → (((0 : Int) ≤ 6 ∧ 6 ≤ (100000000 : Int)) ∧ ∀ n35 : Nat, n35 = hN h34 → ∀ h36 : Hp, h36 = al h34 12 6 (Int.toNat 6) → (hK h36 x0 = 11 ∧ ∀ h37 : Hp, h37 = wR h36 x0 22 n35 → (((0 : Int) ≤ 6 ∧ 6 ≤ (100000000 : Int)) ∧ ∀ n38 : Nat, n38 = hN h37 → ∀ h39 : Hp, h39 = al h37 12 6 (Int.toNat 6) → (hK h39 x0 = 11 ∧ ∀ h40 : Hp, h40 = wR h39 x0 23 n38 → (((0 : Int) ≤ 6 ∧ 6 ≤ (100000000 : Int)) ∧ ∀ n41 : Nat, n41 = hN h40 → ∀ h42 : Hp, h42 = al h40 15 6 (Int.toNat 6) → (hK h42 x0 = 11 ∧ ∀ h43 : Hp, h43 = wR h42 x0 24 n41 → (((0 : Int) ≤ 20 ∧ 20 ≤ (100000000 : Int)) ∧ ∀ n44 : Nat, n44 = hN h43 → ∀ h45 : Hp, h45 = al h43 12 20 (Int.toNat 20) → (hK h45 x0 = 11 ∧ ∀ h46 : Hp, h46 = wR h45 x0 26 n44 → (((0 : Int) ≤ 20 ∧ 20 ≤ (100000000 : Int)) ∧ ∀ n47 : Nat, n47 = hN h46 → ∀ h48 : Hp, h48 = al h46 12 20 (Int.toNat 20) → (hK h48 x0 = 11 ∧ ∀ h49 : Hp, h49 = wR h48 x0 27 n47 → (((0 : Int) ≤ 15360 ∧ 15360 ≤ (100000000 : Int)) ∧ ∀ n50 : Nat, n50 = hN h49 → ∀ h51 : Hp, h51 = al h49 12 15360 (Int.toNat 15360) → (hK h51 x0 = 11 ∧ ∀ h52 : Hp, h52 = wR h51 x0 28 n50 → (((0 : Int) ≤ 15360 ∧ 15360 ≤ (100000000 : Int)) ∧ ∀ n53 : Nat, n53 = hN h52 → ∀ h54 : Hp, h54 = al h52 12 15360 (Int.toNat 15360) → (hK h54 x0 = 11 ∧ ∀ h55 : Hp, h55 = wR h54 x0 30 n53 → (((0 : Int) ≤ 15360 ∧ 15360 ≤ (100000000 : Int)) ∧ ∀ n56 : Nat, n56 = hN h55 → ∀ h57 : Hp, h57 = al h55 12 15360 (Int.toNat 15360) → (hK h57 x0 = 11 ∧ ∀ h58 : Hp, h58 = wR h57 x0 32 n56 → (((0 : Int) ≤ 3660 ∧ 3660 ≤ (100000000 : Int)) ∧ ∀ n59 : Nat, n59 = hN h58 → ∀ h60 : Hp, h60 = al h58 12 3660 (Int.toNat 3660) → (hK h60 x0 = 11 ∧ ∀ h61 : Hp, h61 = wR h60 x0 34 n59 → (((0 : Int) ≤ 61 ∧ 61 ≤ (100000000 : Int)) ∧ ∀ n62 : Nat, n62 = hN h61 → ∀ h63 : Hp, h63 = al h61 12 61 (Int.toNat 61) → (hK h63 x0 = 11 ∧ ∀ h64 : Hp, h64 = wR h63 x0 35 n62 → (((0 : Int) ≤ 61 ∧ 61 ≤ (100000000 : Int)) ∧ ∀ n65 : Nat, n65 = hN h64 → ∀ h66 : Hp, h66 = al h64 12 61 (Int.toNat 61) → (hK h66 x0 = 11 ∧ ∀ h67 : Hp, h67 = wR h66 x0 36 n65 → (((0 : Int) ≤ 61 ∧ 61 ≤ (100000000 : Int)) ∧ ∀ n68 : Nat, n68 = hN h67 → ∀ h69 : Hp, h69 = al h67 12 61 (Int.toNat 61) → (hK h69 x0 = 11 ∧ ∀ h70 : Hp, h70 = wR h69 x0 37 n68 → (((0 : Int) ≤ 120 ∧ 120 ≤ (100000000 : Int)) ∧ ∀ n71 : Nat, n71 = hN h70 → ∀ h72 : Hp, h72 = al h70 12 120 (Int.toNat 120) → (hK h72 x0 = 11 ∧ ∀ h73 : Hp, h73 = wR h72 x0 38 n71 → (((0 : Int) ≤ 6 ∧ 6 ≤ (100000000 : Int)) ∧ ∀ n74 : Nat, n74 = hN h73 → ∀ h75 : Hp, h75 = al h73 12 6 (Int.toNat 6) → (hK h75 x0 = 11 ∧ ∀ h76 : Hp, h76 = wR h75 x0 39 n74 → (Q h76))))))))))))))))))))))))))))))))))))))))))))))))))))
theorem G_X12_init {x0 : Nat} (h : Hp) (Q : Hp → Prop) (hV : V_X12_init x0 h Q) : C_X12_init x0 h Q := by
  unfold V_X12_init at hV
  show Go i_X12_init 0 [(0, .inr (.inr x0))] [] h (qV Q)
  refine s_aload_n d_X12_init_0 rfl (ma 0 rfl) ?_
  obtain ⟨o, hV⟩ := hV
  refine s_objInit d_X12_init_1 ob_RX12_1 (Nat.le_of_ble_eq_true rfl) rfl (by rw [o]; decide) ?_
  refine s_aload_n d_X12_init_4 rfl (ma 0 rfl) ?_
  refine s_sipush d_X12_init_5 (by decide) (okn rfl) ?_
  obtain ⟨o, hV⟩ := hV
  refine s_newi d_X12_init_8 ac_int o.1 o.2 ?_
  refine s_nmA (fun n1 en1 => ?_)
  refine s_nmH (fun h2 eh2 => ?_)
  have hV := hV n1 en1 h2 eh2
  obtain ⟨o, hV⟩ := hV
  refine f_RX12_7p rfl rfl d_X12_init_10 o (fun h3 eh3 => ?_)
  have hV := hV h3 eh3
  refine s_aload_n d_X12_init_13 rfl (ma 0 rfl) ?_
  refine s_iconst d_X12_init_14 (okn rfl) ?_
  obtain ⟨o, hV⟩ := hV
  refine f_RX12_13p rfl d_X12_init_15 o (fun h4 eh4 => ?_)
  have hV := hV h4 eh4
  refine s_aload_n d_X12_init_18 rfl (ma 0 rfl) ?_
  refine s_bipush d_X12_init_19 (by decide) (okn rfl) ?_
  obtain ⟨o, hV⟩ := hV
  refine s_newi d_X12_init_21 ac_int o.1 o.2 ?_
  refine s_nmA (fun n5 en5 => ?_)
  refine s_nmH (fun h6 eh6 => ?_)
  have hV := hV n5 en5 h6 eh6
  obtain ⟨o, hV⟩ := hV
  refine f_RX12_17p rfl rfl d_X12_init_23 o (fun h7 eh7 => ?_)
  have hV := hV h7 eh7
  refine s_aload_n d_X12_init_26 rfl (ma 0 rfl) ?_
  refine s_bipush d_X12_init_27 (by decide) (okn rfl) ?_
  obtain ⟨o, hV⟩ := hV
  refine s_newi d_X12_init_29 ac_int o.1 o.2 ?_
  refine s_nmA (fun n8 en8 => ?_)
  refine s_nmH (fun h9 eh9 => ?_)
  have hV := hV n8 en8 h9 eh9
  obtain ⟨o, hV⟩ := hV
  refine f_RX12_20p rfl rfl d_X12_init_31 o (fun h10 eh10 => ?_)
  have hV := hV h10 eh10
  refine s_aload_n d_X12_init_34 rfl (ma 0 rfl) ?_
  refine s_bipush d_X12_init_35 (by decide) (okn rfl) ?_
  obtain ⟨o, hV⟩ := hV
  refine s_newi d_X12_init_37 ac_int o.1 o.2 ?_
  refine s_nmA (fun n11 en11 => ?_)
  refine s_nmH (fun h12 eh12 => ?_)
  have hV := hV n11 en11 h12 eh12
  obtain ⟨o, hV⟩ := hV
  refine f_RX12_23p rfl rfl d_X12_init_39 o (fun h13 eh13 => ?_)
  have hV := hV h13 eh13
  refine s_aload_n d_X12_init_42 rfl (ma 0 rfl) ?_
  refine s_bipush d_X12_init_43 (by decide) (okn rfl) ?_
  obtain ⟨o, hV⟩ := hV
  refine s_newi d_X12_init_45 ac_int o.1 o.2 ?_
  refine s_nmA (fun n14 en14 => ?_)
  refine s_nmH (fun h15 eh15 => ?_)
  have hV := hV n14 en14 h15 eh15
  obtain ⟨o, hV⟩ := hV
  refine f_RX12_26p rfl rfl d_X12_init_47 o (fun h16 eh16 => ?_)
  have hV := hV h16 eh16
  refine s_aload_n d_X12_init_50 rfl (ma 0 rfl) ?_
  refine s_bipush d_X12_init_51 (by decide) (okn rfl) ?_
  obtain ⟨o, hV⟩ := hV
  refine s_newi d_X12_init_53 ac_int o.1 o.2 ?_
  refine s_nmA (fun n17 en17 => ?_)
  refine s_nmH (fun h18 eh18 => ?_)
  have hV := hV n17 en17 h18 eh18
  obtain ⟨o, hV⟩ := hV
  refine f_RX12_29p rfl rfl d_X12_init_55 o (fun h19 eh19 => ?_)
  have hV := hV h19 eh19
  refine s_aload_n d_X12_init_58 rfl (ma 0 rfl) ?_
  refine s_bipush d_X12_init_59 (by decide) (okn rfl) ?_
  obtain ⟨o, hV⟩ := hV
  refine s_newi d_X12_init_61 ac_int o.1 o.2 ?_
  refine s_nmA (fun n20 en20 => ?_)
  refine s_nmH (fun h21 eh21 => ?_)
  have hV := hV n20 en20 h21 eh21
  obtain ⟨o, hV⟩ := hV
  refine f_RX12_32p rfl rfl d_X12_init_63 o (fun h22 eh22 => ?_)
  have hV := hV h22 eh22
  refine s_aload_n d_X12_init_66 rfl (ma 0 rfl) ?_
  refine s_sipush d_X12_init_67 (by decide) (okn rfl) ?_
  obtain ⟨o, hV⟩ := hV
  refine s_newi d_X12_init_70 ac_int o.1 o.2 ?_
  refine s_nmA (fun n23 en23 => ?_)
  refine s_nmH (fun h24 eh24 => ?_)
  have hV := hV n23 en23 h24 eh24
  obtain ⟨o, hV⟩ := hV
  refine f_RX12_35p rfl rfl d_X12_init_72 o (fun h25 eh25 => ?_)
  have hV := hV h25 eh25
  refine s_aload_n d_X12_init_75 rfl (ma 0 rfl) ?_
  refine s_sipush d_X12_init_76 (by decide) (okn rfl) ?_
  obtain ⟨o, hV⟩ := hV
  refine s_newi d_X12_init_79 ac_int o.1 o.2 ?_
  refine s_nmA (fun n26 en26 => ?_)
  refine s_nmH (fun h27 eh27 => ?_)
  have hV := hV n26 en26 h27 eh27
  obtain ⟨o, hV⟩ := hV
  refine f_RX12_38p rfl rfl d_X12_init_81 o (fun h28 eh28 => ?_)
  have hV := hV h28 eh28
  refine s_aload_n d_X12_init_84 rfl (ma 0 rfl) ?_
  refine s_iconst d_X12_init_85 (okn rfl) ?_
  obtain ⟨o, hV⟩ := hV
  refine s_newi d_X12_init_86 ac_int o.1 o.2 ?_
  refine s_nmA (fun n29 en29 => ?_)
  refine s_nmH (fun h30 eh30 => ?_)
  have hV := hV n29 en29 h30 eh30
  obtain ⟨o, hV⟩ := hV
  refine f_RX12_41p rfl rfl d_X12_init_88 o (fun h31 eh31 => ?_)
  have hV := hV h31 eh31
  refine s_aload_n d_X12_init_91 rfl (ma 0 rfl) ?_
  refine s_iconst d_X12_init_92 (okn rfl) ?_
  obtain ⟨o, hV⟩ := hV
  refine s_newz d_X12_init_93 ac_boolean o.1 o.2 ?_
  refine s_nmA (fun n32 en32 => ?_)
  refine s_nmH (fun h33 eh33 => ?_)
  have hV := hV n32 en32 h33 eh33
  obtain ⟨o, hV⟩ := hV
  refine f_RX12_44p rfl rfl d_X12_init_95 o (fun h34 eh34 => ?_)
  have hV := hV h34 eh34
  refine s_aload_n d_X12_init_98 rfl (ma 0 rfl) ?_
  refine s_bipush d_X12_init_99 (by decide) (okn rfl) ?_
  obtain ⟨o, hV⟩ := hV
  refine s_newi d_X12_init_101 ac_int o.1 o.2 ?_
  refine s_nmA (fun n35 en35 => ?_)
  refine s_nmH (fun h36 eh36 => ?_)
  have hV := hV n35 en35 h36 eh36
  obtain ⟨o, hV⟩ := hV
  refine f_RX12_48p rfl rfl d_X12_init_103 o (fun h37 eh37 => ?_)
  have hV := hV h37 eh37
  refine s_aload_n d_X12_init_106 rfl (ma 0 rfl) ?_
  refine s_bipush d_X12_init_107 (by decide) (okn rfl) ?_
  obtain ⟨o, hV⟩ := hV
  refine s_newi d_X12_init_109 ac_int o.1 o.2 ?_
  refine s_nmA (fun n38 en38 => ?_)
  refine s_nmH (fun h39 eh39 => ?_)
  have hV := hV n38 en38 h39 eh39
  obtain ⟨o, hV⟩ := hV
  refine f_RX12_51p rfl rfl d_X12_init_111 o (fun h40 eh40 => ?_)
  have hV := hV h40 eh40
  refine s_aload_n d_X12_init_114 rfl (ma 0 rfl) ?_
  refine s_bipush d_X12_init_115 (by decide) (okn rfl) ?_
  obtain ⟨o, hV⟩ := hV
  refine s_newz d_X12_init_117 ac_boolean o.1 o.2 ?_
  refine s_nmA (fun n41 en41 => ?_)
  refine s_nmH (fun h42 eh42 => ?_)
  have hV := hV n41 en41 h42 eh42
  obtain ⟨o, hV⟩ := hV
  refine f_RX12_54p rfl rfl d_X12_init_119 o (fun h43 eh43 => ?_)
  have hV := hV h43 eh43
  refine s_aload_n d_X12_init_122 rfl (ma 0 rfl) ?_
  refine s_bipush d_X12_init_123 (by decide) (okn rfl) ?_
  obtain ⟨o, hV⟩ := hV
  refine s_newi d_X12_init_125 ac_int o.1 o.2 ?_
  refine s_nmA (fun n44 en44 => ?_)
  refine s_nmH (fun h45 eh45 => ?_)
  have hV := hV n44 en44 h45 eh45
  obtain ⟨o, hV⟩ := hV
  refine f_RX12_57p rfl rfl d_X12_init_127 o (fun h46 eh46 => ?_)
  have hV := hV h46 eh46
  refine s_aload_n d_X12_init_130 rfl (ma 0 rfl) ?_
  refine s_bipush d_X12_init_131 (by decide) (okn rfl) ?_
  obtain ⟨o, hV⟩ := hV
  refine s_newi d_X12_init_133 ac_int o.1 o.2 ?_
  refine s_nmA (fun n47 en47 => ?_)
  refine s_nmH (fun h48 eh48 => ?_)
  have hV := hV n47 en47 h48 eh48
  obtain ⟨o, hV⟩ := hV
  refine f_RX12_60p rfl rfl d_X12_init_135 o (fun h49 eh49 => ?_)
  have hV := hV h49 eh49
  refine s_aload_n d_X12_init_138 rfl (ma 0 rfl) ?_
  refine s_sipush d_X12_init_139 (by decide) (okn rfl) ?_
  obtain ⟨o, hV⟩ := hV
  refine s_newi d_X12_init_142 ac_int o.1 o.2 ?_
  refine s_nmA (fun n50 en50 => ?_)
  refine s_nmH (fun h51 eh51 => ?_)
  have hV := hV n50 en50 h51 eh51
  obtain ⟨o, hV⟩ := hV
  refine f_RX12_63p rfl rfl d_X12_init_144 o (fun h52 eh52 => ?_)
  have hV := hV h52 eh52
  refine s_aload_n d_X12_init_147 rfl (ma 0 rfl) ?_
  refine s_sipush d_X12_init_148 (by decide) (okn rfl) ?_
  obtain ⟨o, hV⟩ := hV
  refine s_newi d_X12_init_151 ac_int o.1 o.2 ?_
  refine s_nmA (fun n53 en53 => ?_)
  refine s_nmH (fun h54 eh54 => ?_)
  have hV := hV n53 en53 h54 eh54
  obtain ⟨o, hV⟩ := hV
  refine f_RX12_66p rfl rfl d_X12_init_153 o (fun h55 eh55 => ?_)
  have hV := hV h55 eh55
  refine s_aload_n d_X12_init_156 rfl (ma 0 rfl) ?_
  refine s_sipush d_X12_init_157 (by decide) (okn rfl) ?_
  obtain ⟨o, hV⟩ := hV
  refine s_newi d_X12_init_160 ac_int o.1 o.2 ?_
  refine s_nmA (fun n56 en56 => ?_)
  refine s_nmH (fun h57 eh57 => ?_)
  have hV := hV n56 en56 h57 eh57
  obtain ⟨o, hV⟩ := hV
  refine f_RX12_69p rfl rfl d_X12_init_162 o (fun h58 eh58 => ?_)
  have hV := hV h58 eh58
  refine s_aload_n d_X12_init_165 rfl (ma 0 rfl) ?_
  refine s_sipush d_X12_init_166 (by decide) (okn rfl) ?_
  obtain ⟨o, hV⟩ := hV
  refine s_newi d_X12_init_169 ac_int o.1 o.2 ?_
  refine s_nmA (fun n59 en59 => ?_)
  refine s_nmH (fun h60 eh60 => ?_)
  have hV := hV n59 en59 h60 eh60
  obtain ⟨o, hV⟩ := hV
  refine f_RX12_72p rfl rfl d_X12_init_171 o (fun h61 eh61 => ?_)
  have hV := hV h61 eh61
  refine s_aload_n d_X12_init_174 rfl (ma 0 rfl) ?_
  refine s_bipush d_X12_init_175 (by decide) (okn rfl) ?_
  obtain ⟨o, hV⟩ := hV
  refine s_newi d_X12_init_177 ac_int o.1 o.2 ?_
  refine s_nmA (fun n62 en62 => ?_)
  refine s_nmH (fun h63 eh63 => ?_)
  have hV := hV n62 en62 h63 eh63
  obtain ⟨o, hV⟩ := hV
  refine f_RX12_75p rfl rfl d_X12_init_179 o (fun h64 eh64 => ?_)
  have hV := hV h64 eh64
  refine s_aload_n d_X12_init_182 rfl (ma 0 rfl) ?_
  refine s_bipush d_X12_init_183 (by decide) (okn rfl) ?_
  obtain ⟨o, hV⟩ := hV
  refine s_newi d_X12_init_185 ac_int o.1 o.2 ?_
  refine s_nmA (fun n65 en65 => ?_)
  refine s_nmH (fun h66 eh66 => ?_)
  have hV := hV n65 en65 h66 eh66
  obtain ⟨o, hV⟩ := hV
  refine f_RX12_78p rfl rfl d_X12_init_187 o (fun h67 eh67 => ?_)
  have hV := hV h67 eh67
  refine s_aload_n d_X12_init_190 rfl (ma 0 rfl) ?_
  refine s_bipush d_X12_init_191 (by decide) (okn rfl) ?_
  obtain ⟨o, hV⟩ := hV
  refine s_newi d_X12_init_193 ac_int o.1 o.2 ?_
  refine s_nmA (fun n68 en68 => ?_)
  refine s_nmH (fun h69 eh69 => ?_)
  have hV := hV n68 en68 h69 eh69
  obtain ⟨o, hV⟩ := hV
  refine f_RX12_81p rfl rfl d_X12_init_195 o (fun h70 eh70 => ?_)
  have hV := hV h70 eh70
  refine s_aload_n d_X12_init_198 rfl (ma 0 rfl) ?_
  refine s_bipush d_X12_init_199 (by decide) (okn rfl) ?_
  obtain ⟨o, hV⟩ := hV
  refine s_newi d_X12_init_201 ac_int o.1 o.2 ?_
  refine s_nmA (fun n71 en71 => ?_)
  refine s_nmH (fun h72 eh72 => ?_)
  have hV := hV n71 en71 h72 eh72
  obtain ⟨o, hV⟩ := hV
  refine f_RX12_84p rfl rfl d_X12_init_203 o (fun h73 eh73 => ?_)
  have hV := hV h73 eh73
  refine s_aload_n d_X12_init_206 rfl (ma 0 rfl) ?_
  refine s_bipush d_X12_init_207 (by decide) (okn rfl) ?_
  obtain ⟨o, hV⟩ := hV
  refine s_newi d_X12_init_209 ac_int o.1 o.2 ?_
  refine s_nmA (fun n74 en74 => ?_)
  refine s_nmH (fun h75 eh75 => ?_)
  have hV := hV n74 en74 h75 eh75
  obtain ⟨o, hV⟩ := hV
  refine f_RX12_87p rfl rfl d_X12_init_211 o (fun h76 eh76 => ?_)
  have hV := hV h76 eh76
  exact s_vret d_X12_init_214 rfl ⟨rfl, hV⟩

theorem d_X12_is_0 : decode i_X12_is.2.1 0 = .ok (.iload_n 0, 1) := by decide +kernel
theorem d_X12_is_1 : decode i_X12_is.2.1 1 = .ok (.iload_n 1, 1) := by decide +kernel
theorem d_X12_is_2 : decode i_X12_is.2.1 2 = .ok (.if_icmp .lt 12, 3) := by decide +kernel
theorem d_X12_is_5 : decode i_X12_is.2.1 5 = .ok (.iload_n 0, 1) := by decide +kernel
theorem d_X12_is_6 : decode i_X12_is.2.1 6 = .ok (.iload_n 2, 1) := by decide +kernel
theorem d_X12_is_7 : decode i_X12_is.2.1 7 = .ok (.if_icmp .gt 7, 3) := by decide +kernel
theorem d_X12_is_10 : decode i_X12_is.2.1 10 = .ok (.iconst 1, 1) := by decide +kernel
theorem d_X12_is_11 : decode i_X12_is.2.1 11 = .ok (.goto 4, 3) := by decide +kernel
theorem d_X12_is_14 : decode i_X12_is.2.1 14 = .ok (.iconst 0, 1) := by decide +kernel
theorem d_X12_is_15 : decode i_X12_is.2.1 15 = .ok (.ireturn, 1) := by decide +kernel
def V_X12_is (x0 : Int) (x1 : Int) (x2 : Int) (h : Hp) (Q : Int → Hp → Prop) : Prop :=
  (x0 < x1 → (Q 0 h)) ∧ (¬ x0 < x1 → ((x2 < x0 → (Q 0 h)) ∧ (¬ x2 < x0 → (Q 1 h))))
theorem G_X12_is {x0 : Int} {x1 : Int} {x2 : Int} (h : Hp) (Q : Int → Hp → Prop) (hV : V_X12_is x0 x1 x2 h Q) : C_X12_is x0 x1 x2 h Q := by
  unfold V_X12_is at hV
  show Go i_X12_is 0 [(0, .inl x0), (1, .inl x1), (2, .inl x2)] [] h (qI Q)
  refine s_iload_n d_X12_is_0 rfl (ma 0 rfl) ?_
  refine s_iload_n d_X12_is_1 rfl (ma 1 rfl) ?_
  refine s_icmp_lt (tgt := 14) d_X12_is_2 (by decide) (fun c => ?_) (fun c => ?_)
  · have hV := hV.1 c
    refine s_iconst d_X12_is_14 (okn rfl) ?_
    exact s_iret d_X12_is_15 rfl (nar_z (Or.inl rfl)) ⟨_, rfl, hV⟩
  · have hV := hV.2 c
    refine s_iload_n d_X12_is_5 rfl (ma 0 rfl) ?_
    refine s_iload_n d_X12_is_6 rfl (ma 2 rfl) ?_
    refine s_icmp_gt (tgt := 14) d_X12_is_7 (by decide) (fun c => ?_) (fun c => ?_)
    · have hV := hV.1 c
      refine s_iconst d_X12_is_14 (okn rfl) ?_
      exact s_iret d_X12_is_15 rfl (nar_z (Or.inl rfl)) ⟨_, rfl, hV⟩
    · have hV := hV.2 c
      refine s_iconst d_X12_is_10 (okn rfl) ?_
      refine s_goto (tgt := 15) d_X12_is_11 (by decide) ?_
      exact s_iret d_X12_is_15 rfl (nar_z (Or.inr rfl)) ⟨_, rfl, hV⟩

theorem d_X12_has_0 : decode i_X12_has.2.1 0 = .ok (.iload_n 0, 1) := by decide +kernel
theorem d_X12_has_1 : decode i_X12_has.2.1 1 = .ok (.iload_n 1, 1) := by decide +kernel
theorem d_X12_has_2 : decode i_X12_has.2.1 2 = .ok (.ishr, 1) := by decide +kernel
theorem d_X12_has_3 : decode i_X12_has.2.1 3 = .ok (.iconst 1, 1) := by decide +kernel
theorem d_X12_has_4 : decode i_X12_has.2.1 4 = .ok (.iand, 1) := by decide +kernel
theorem d_X12_has_5 : decode i_X12_has.2.1 5 = .ok (.iconst 1, 1) := by decide +kernel
theorem d_X12_has_6 : decode i_X12_has.2.1 6 = .ok (.if_icmp .ne 7, 3) := by decide +kernel
theorem d_X12_has_9 : decode i_X12_has.2.1 9 = .ok (.iconst 1, 1) := by decide +kernel
theorem d_X12_has_10 : decode i_X12_has.2.1 10 = .ok (.goto 4, 3) := by decide +kernel
theorem d_X12_has_13 : decode i_X12_has.2.1 13 = .ok (.iconst 0, 1) := by decide +kernel
theorem d_X12_has_14 : decode i_X12_has.2.1 14 = .ok (.ireturn, 1) := by decide +kernel
def V_X12_has (x0 : Int) (x1 : Int) (h : Hp) (Q : Int → Hp → Prop) : Prop :=
  (zAnd (zShr x0 x1) 1 ≠ 1 → (Q 0 h)) ∧ (zAnd (zShr x0 x1) 1 = 1 → (Q 1 h))
theorem G_X12_has {x0 : Int} {x1 : Int} (h : Hp) (Q : Int → Hp → Prop) (hV : V_X12_has x0 x1 h Q) : C_X12_has x0 x1 h Q := by
  unfold V_X12_has at hV
  show Go i_X12_has 0 [(0, .inl x0), (1, .inl x1)] [] h (qI Q)
  refine s_iload_n d_X12_has_0 rfl (ma 0 rfl) ?_
  refine s_iload_n d_X12_has_1 rfl (ma 1 rfl) ?_
  refine s_ishr d_X12_has_2 ?_
  refine s_iconst d_X12_has_3 (okn rfl) ?_
  refine s_iand d_X12_has_4 ?_
  refine s_iconst d_X12_has_5 (okn rfl) ?_
  refine s_icmp_ne (tgt := 13) d_X12_has_6 (by decide) (fun c => ?_) (fun c => ?_)
  · have hV := hV.1 c
    refine s_iconst d_X12_has_13 (okn rfl) ?_
    exact s_iret d_X12_has_14 rfl (nar_z (Or.inl rfl)) ⟨_, rfl, hV⟩
  · have hV := hV.2 c
    refine s_iconst d_X12_has_9 (okn rfl) ?_
    refine s_goto (tgt := 14) d_X12_has_10 (by decide) ?_
    exact s_iret d_X12_has_14 rfl (nar_z (Or.inr rfl)) ⟨_, rfl, hV⟩

theorem d_X12_bring_0 : decode i_X12_bring.2.1 0 = .ok (.iconst 0, 1) := by decide +kernel
theorem d_X12_bring_1 : decode i_X12_bring.2.1 1 = .ok (.istore 5, 2) := by decide +kernel
theorem d_X12_bring_3 : decode i_X12_bring.2.1 3 = .ok (.iload 5, 2) := by decide +kernel
theorem d_X12_bring_5 : decode i_X12_bring.2.1 5 = .ok (.iload 4, 2) := by decide +kernel
theorem d_X12_bring_7 : decode i_X12_bring.2.1 7 = .ok (.if_icmp .ge 21, 3) := by decide +kernel
theorem d_X12_bring_10 : decode i_X12_bring.2.1 10 = .ok (.aload_n 2, 1) := by decide +kernel
theorem d_X12_bring_11 : decode i_X12_bring.2.1 11 = .ok (.iload_n 3, 1) := by decide +kernel
theorem d_X12_bring_12 : decode i_X12_bring.2.1 12 = .ok (.iload 5, 2) := by decide +kernel
theorem d_X12_bring_14 : decode i_X12_bring.2.1 14 = .ok (.iadd, 1) := by decide +kernel
theorem d_X12_bring_15 : decode i_X12_bring.2.1 15 = .ok (.aload_n 0, 1) := by decide +kernel
theorem d_X12_bring_16 : decode i_X12_bring.2.1 16 = .ok (.iload_n 1, 1) := by decide +kernel
theorem d_X12_bring_17 : decode i_X12_bring.2.1 17 = .ok (.iload 5, 2) := by decide +kernel
theorem d_X12_bring_19 : decode i_X12_bring.2.1 19 = .ok (.iadd, 1) := by decide +kernel
theorem d_X12_bring_20 : decode i_X12_bring.2.1 20 = .ok (.iaload, 1) := by decide +kernel
theorem d_X12_bring_21 : decode i_X12_bring.2.1 21 = .ok (.iastore, 1) := by decide +kernel
theorem d_X12_bring_22 : decode i_X12_bring.2.1 22 = .ok (.iinc 5 1, 3) := by decide +kernel
theorem d_X12_bring_25 : decode i_X12_bring.2.1 25 = .ok (.goto (-22), 3) := by decide +kernel
theorem d_X12_bring_28 : decode i_X12_bring.2.1 28 = .ok (.return_, 1) := by decide +kernel
def BLp_X12_bring_3 (x0 : Nat) (x1 : Int) (x2 : Nat) (x3 : Int) (x4 : Int) (P3 : Int → Hp → Prop) (x5 : Int) (h : Hp) (Q : Hp → Prop) : Prop :=
  (x4 ≤ x5 → (Q h)) ∧ (¬ x4 ≤ x5 → (((-2147483648 : Int) ≤ x3 + x5 ∧ x3 + x5 ≤ (2147483647 : Int)) ∧ (((-2147483648 : Int) ≤ x1 + x5 ∧ x1 + x5 ≤ (2147483647 : Int)) ∧ ((hK h x0 = 12 ∧ (0 : Int) ≤ x1 + x5 ∧ x1 + x5 < hL h x0) ∧ ((hK h x2 = 12 ∧ (0 : Int) ≤ x3 + x5 ∧ x3 + x5 < hL h x2) ∧ ∀ h1 : Hp, h1 = wI h x2 (x3 + x5) (hI h x0 (x1 + x5)) → (((-2147483648 : Int) ≤ x5 + 1 ∧ x5 + 1 ≤ (2147483647 : Int)) ∧ (P3 (x5 + 1) h1)))))))
def Lp_X12_bring_3 (x0 : Nat) (x1 : Int) (x2 : Nat) (x3 : Int) (x4 : Int) (x5 : Int) (h : Hp) (Q : Hp → Prop) : Prop := ∀ P3 : Int → Hp → Prop, (∀ (x5 : Int) (h : Hp), BLp_X12_bring_3 x0 x1 x2 x3 x4 P3 x5 h Q → P3 x5 h) → P3 x5 h
theorem Lp_X12_bring_3_ind {x0 : Nat} {x1 : Int} {x2 : Nat} {x3 : Int} {x4 : Int} {Q : Hp → Prop} (I : Int → Hp → Prop) (μ : Int → Hp → Nat) (hs : ∀ (P3 : Int → Hp → Prop) (x5 : Int) (h : Hp), I x5 h → (∀ (x5' : Int) (h' : Hp), I x5' h' → μ x5' h' < μ x5 h → P3 x5' h') → BLp_X12_bring_3 x0 x1 x2 x3 x4 P3 x5 h Q) : ∀ (x5 : Int) (h : Hp), I x5 h → Lp_X12_bring_3 x0 x1 x2 x3 x4 x5 h Q := by
  intro x5 h hI P3 hP
  have key : ∀ (n : Nat) (x5 : Int) (h : Hp), I x5 h → μ x5 h < n → P3 x5 h := by
    intro n
    induction n with
    | zero => intro x5 h _ hl; exact absurd hl (Nat.not_lt_zero _)
    | succ n ih => intro x5 h hi hl; exact hP x5 h (hs P3 x5 h hi (fun x5 h' hi' hl' => ih x5 h' hi' (by omega)))
  exact key _ x5 h hI (Nat.lt_succ_self _)
theorem GLp_X12_bring_3 (x0 : Nat) (x1 : Int) (x2 : Nat) (x3 : Int) (x4 : Int) (x5 : Int) (h : Hp) (Q : Hp → Prop) (hV : Lp_X12_bring_3 x0 x1 x2 x3 x4 x5 h Q) : Go i_X12_bring 3 [(0, .inr (.inr x0)), (1, .inl x1), (2, .inr (.inr x2)), (3, .inl x3), (4, .inl x4), (5, .inl x5)] [] h (qV Q) := by
  refine hV (fun x5 h => Go i_X12_bring 3 [(0, .inr (.inr x0)), (1, .inl x1), (2, .inr (.inr x2)), (3, .inl x3), (4, .inl x4), (5, .inl x5)] [] h (qV Q)) (fun x5 h hV => ?_)
  unfold BLp_X12_bring_3 at hV
  have hP3 : ∀ (x5 : Int) (h : Hp), Go i_X12_bring 3 [(0, .inr (.inr x0)), (1, .inl x1), (2, .inr (.inr x2)), (3, .inl x3), (4, .inl x4), (5, .inl x5)] [] h (qV Q) → Go i_X12_bring 3 [(0, .inr (.inr x0)), (1, .inl x1), (2, .inr (.inr x2)), (3, .inl x3), (4, .inl x4), (5, .inl x5)] [] h (qV Q) := fun _ h z => z
  refine s_iload d_X12_bring_3 (ma 5 rfl) ?_
  refine s_iload d_X12_bring_5 (ma 4 rfl) ?_
  refine s_icmp_ge (tgt := 28) d_X12_bring_7 (by decide) (fun c => ?_) (fun c => ?_)
  · have hV := hV.1 c
    exact s_vret d_X12_bring_28 rfl ⟨rfl, hV⟩
  · have hV := hV.2 c
    refine s_aload_n d_X12_bring_10 rfl (ma 2 rfl) ?_
    refine s_iload_n d_X12_bring_11 rfl (ma 3 rfl) ?_
    refine s_iload d_X12_bring_12 (ma 5 rfl) ?_
    obtain ⟨o, hV⟩ := hV
    refine s_iadd d_X12_bring_14 o ?_
    refine s_aload_n d_X12_bring_15 rfl (ma 0 rfl) ?_
    refine s_iload_n d_X12_bring_16 rfl (ma 1 rfl) ?_
    refine s_iload d_X12_bring_17 (ma 5 rfl) ?_
    obtain ⟨o, hV⟩ := hV
    refine s_iadd d_X12_bring_19 o ?_
    obtain ⟨o, hV⟩ := hV
    refine s_iald d_X12_bring_20 o.1 o.2.1 o.2.2 ?_
    obtain ⟨o, hV⟩ := hV
    refine s_iast d_X12_bring_21 o.1 o.2.1 o.2.2 ?_
    refine s_nmH (fun h1 eh1 => ?_)
    have hV := hV h1 eh1
    obtain ⟨o, hV⟩ := hV
    refine s_iinc (lv' := [(5, .inl (x5 + 1)), (0, .inr (.inr x0)), (1, .inl x1), (2, .inr (.inr x2)), (3, .inl x3), (4, .inl x4)]) d_X12_bring_22 (ma 5 rfl) o (Nat.le_of_ble_eq_true rfl) rfl ?_
    refine s_goto (tgt := 3) d_X12_bring_25 (by decide) ?_
    refine s_pick (lv' := [(0, .inr (.inr x0)), (1, .inl x1), (2, .inr (.inr x2)), (3, .inl x3), (4, .inl x4), (5, .inl (x5 + 1))]) [1, 2, 3, 4, 5, 0] rfl ?_
    exact hP3 _ _ hV
def V_X12_bring (x0 : Nat) (x1 : Int) (x2 : Nat) (x3 : Int) (x4 : Int) (h : Hp) (Q : Hp → Prop) : Prop :=
  Lp_X12_bring_3 x0 x1 x2 x3 x4 0 h Q
theorem G_X12_bring {x0 : Nat} {x1 : Int} {x2 : Nat} {x3 : Int} {x4 : Int} (h : Hp) (Q : Hp → Prop) (hV : V_X12_bring x0 x1 x2 x3 x4 h Q) : C_X12_bring x0 x1 x2 x3 x4 h Q := by
  unfold V_X12_bring at hV
  show Go i_X12_bring 0 [(0, .inr (.inr x0)), (1, .inl x1), (2, .inr (.inr x2)), (3, .inl x3), (4, .inl x4)] [] h (qV Q)
  refine s_iconst d_X12_bring_0 (okn rfl) ?_
  refine s_istore (lv' := [(5, .inl 0), (0, .inr (.inr x0)), (1, .inl x1), (2, .inr (.inr x2)), (3, .inl x3), (4, .inl x4)]) d_X12_bring_1 (Nat.le_of_ble_eq_true rfl) rfl ?_
  refine s_pick (lv' := [(0, .inr (.inr x0)), (1, .inl x1), (2, .inr (.inr x2)), (3, .inl x3), (4, .inl x4), (5, .inl 0)]) [1, 2, 3, 4, 5, 0] rfl ?_
  exact GLp_X12_bring_3 _ _ _ _ _ _ _ _ hV

theorem d_X12_feed_0 : decode i_X12_feed.2.1 0 = .ok (.iload_n 1, 1) := by decide +kernel
theorem d_X12_feed_1 : decode i_X12_feed.2.1 1 = .ok (.iconst 0, 1) := by decide +kernel
theorem d_X12_feed_2 : decode i_X12_feed.2.1 2 = .ok (.sipush 255, 3) := by decide +kernel
theorem d_X12_feed_5 : decode i_X12_feed.2.1 5 = .ok (.invokestatic 90, 3) := by decide +kernel
theorem d_X12_feed_8 : decode i_X12_feed.2.1 8 = .ok (.ifCond .ne 6, 3) := by decide +kernel
theorem d_X12_feed_11 : decode i_X12_feed.2.1 11 = .ok (.ldc 94, 2) := by decide +kernel
theorem d_X12_feed_13 : decode i_X12_feed.2.1 13 = .ok (.ireturn, 1) := by decide +kernel
theorem d_X12_feed_14 : decode i_X12_feed.2.1 14 = .ok (.aload_n 0, 1) := by decide +kernel
theorem d_X12_feed_15 : decode i_X12_feed.2.1 15 = .ok (.getfield 95, 3) := by decide +kernel
theorem d_X12_feed_18 : decode i_X12_feed.2.1 18 = .ok (.sipush 240, 3) := by decide +kernel
theorem d_X12_feed_21 : decode i_X12_feed.2.1 21 = .ok (.if_icmp .ne 6, 3) := by decide +kernel
theorem d_X12_feed_24 : decode i_X12_feed.2.1 24 = .ok (.ldc 98, 2) := by decide +kernel
theorem d_X12_feed_26 : decode i_X12_feed.2.1 26 = .ok (.ireturn, 1) := by decide +kernel
theorem d_X12_feed_27 : decode i_X12_feed.2.1 27 = .ok (.aload_n 0, 1) := by decide +kernel
theorem d_X12_feed_28 : decode i_X12_feed.2.1 28 = .ok (.getfield 7, 3) := by decide +kernel
theorem d_X12_feed_31 : decode i_X12_feed.2.1 31 = .ok (.aload_n 0, 1) := by decide +kernel
theorem d_X12_feed_32 : decode i_X12_feed.2.1 32 = .ok (.getfield 95, 3) := by decide +kernel
theorem d_X12_feed_35 : decode i_X12_feed.2.1 35 = .ok (.iload_n 1, 1) := by decide +kernel
theorem d_X12_feed_36 : decode i_X12_feed.2.1 36 = .ok (.iastore, 1) := by decide +kernel
theorem d_X12_feed_37 : decode i_X12_feed.2.1 37 = .ok (.aload_n 0, 1) := by decide +kernel
theorem d_X12_feed_38 : decode i_X12_feed.2.1 38 = .ok (.dup, 1) := by decide +kernel
theorem d_X12_feed_39 : decode i_X12_feed.2.1 39 = .ok (.getfield 95, 3) := by decide +kernel
theorem d_X12_feed_42 : decode i_X12_feed.2.1 42 = .ok (.iconst 1, 1) := by decide +kernel
theorem d_X12_feed_43 : decode i_X12_feed.2.1 43 = .ok (.iadd, 1) := by decide +kernel
theorem d_X12_feed_44 : decode i_X12_feed.2.1 44 = .ok (.putfield 95, 3) := by decide +kernel
theorem d_X12_feed_47 : decode i_X12_feed.2.1 47 = .ok (.aload_n 0, 1) := by decide +kernel
theorem d_X12_feed_48 : decode i_X12_feed.2.1 48 = .ok (.getfield 95, 3) := by decide +kernel
theorem d_X12_feed_51 : decode i_X12_feed.2.1 51 = .ok (.ireturn, 1) := by decide +kernel
def V_X12_feed (x0 : Nat) (x1 : Int) (h : Hp) (Q : Int → Hp → Prop) : Prop :=
  C_X12_is x1 0 255 h (fun r2 h1 => ((r2 ≠ 0 → (hK h1 x0 = 11 ∧ ((hI h1 x0 0 ≠ 240 → (hK h1 x0 = 11 ∧ (hK h1 x0 = 11 ∧ ((hK h1 (hR h1 x0 1) = 12 ∧ (0 : Int) ≤ hI h1 x0 0 ∧ hI h1 x0 0 < hL h1 (hR h1 x0 1)) ∧ ∀ h3 : Hp, h3 = wI h1 (hR h1 x0 1) (hI h1 x0 0) x1 → (hK h3 x0 = 11 ∧ (((-2147483648 : Int) ≤ (hI h3 x0 0) + 1 ∧ (hI h3 x0 0) + 1 ≤ (2147483647 : Int)) ∧ (hK h3 x0 = 11 ∧ ∀ h4 : Hp, h4 = wI h3 x0 0 ((hI h3 x0 0) + 1) → (hK h4 x0 = 11 ∧ (Q (hI h4 x0 0) h4))))))))) ∧ (hI h1 x0 0 = 240 → (Q (-1000000004) h1))))) ∧ (r2 = 0 → (Q (-1000000002) h1))))
theorem G_X12_feed {x0 : Nat} {x1 : Int} (h : Hp) (Q : Int → Hp → Prop) (hV : V_X12_feed x0 x1 h Q) : C_X12_feed x0 x1 h Q := by
  unfold V_X12_feed at hV
  show Go i_X12_feed 0 [(0, .inr (.inr x0)), (1, .inl x1)] [] h (qI Q)
  refine s_iload_n d_X12_feed_0 rfl (ma 1 rfl) ?_
  refine s_iconst d_X12_feed_1 (okn rfl) ?_
  refine s_sipush d_X12_feed_2 (by decide) (okn rfl) ?_
  refine v_RX12_90 rfl (Nat.le_of_ble_eq_true rfl) d_X12_feed_5 (Nat.le_of_ble_eq_true rfl) hV (fun r2 h1 hV => ?_)
  refine s_if_ne (tgt := 14) d_X12_feed_8 (by decide) (fun c => ?_) (fun c => ?_)
  · have hV := hV.1 c
    refine s_aload_n d_X12_feed_14 rfl (ma 0 rfl) ?_
    obtain ⟨o, hV⟩ := hV
    refine f_RX12_95g rfl d_X12_feed_15 o ?_
    refine s_sipush d_X12_feed_18 (by decide) (okn rfl) ?_
    refine s_icmp_ne (tgt := 27) d_X12_feed_21 (by decide) (fun c => ?_) (fun c => ?_)
    · have hV := hV.1 c
      refine s_aload_n d_X12_feed_27 rfl (ma 0 rfl) ?_
      obtain ⟨o, hV⟩ := hV
      refine f_RX12_7g rfl d_X12_feed_28 o ?_
      refine s_aload_n d_X12_feed_31 rfl (ma 0 rfl) ?_
      obtain ⟨o, hV⟩ := hV
      refine f_RX12_95g rfl d_X12_feed_32 o ?_
      refine s_iload_n d_X12_feed_35 rfl (ma 1 rfl) ?_
      obtain ⟨o, hV⟩ := hV
      refine s_iast d_X12_feed_36 o.1 o.2.1 o.2.2 ?_
      refine s_nmH (fun h3 eh3 => ?_)
      have hV := hV h3 eh3
      refine s_aload_n d_X12_feed_37 rfl (ma 0 rfl) ?_
      refine s_dup d_X12_feed_38 rfl ?_
      obtain ⟨o, hV⟩ := hV
      refine f_RX12_95g rfl d_X12_feed_39 o ?_
      refine s_iconst d_X12_feed_42 (okn rfl) ?_
      obtain ⟨o, hV⟩ := hV
      refine s_iadd d_X12_feed_43 o ?_
      obtain ⟨o, hV⟩ := hV
      refine f_RX12_95p rfl d_X12_feed_44 o (fun h4 eh4 => ?_)
      have hV := hV h4 eh4
      refine s_aload_n d_X12_feed_47 rfl (ma 0 rfl) ?_
      obtain ⟨o, hV⟩ := hV
      refine f_RX12_95g rfl d_X12_feed_48 o ?_
      exact s_iret d_X12_feed_51 rfl rfl ⟨_, rfl, hV⟩
    · have hV := hV.2 c
      refine s_ldc (n := (-1000000004)) d_X12_feed_24 k_RX12_98 (by decide) (okn rfl) ?_
      exact s_iret d_X12_feed_26 rfl rfl ⟨_, rfl, hV⟩
  · have hV := hV.2 c
    refine s_ldc (n := (-1000000002)) d_X12_feed_11 k_RX12_94 (by decide) (okn rfl) ?_
    exact s_iret d_X12_feed_13 rfl rfl ⟨_, rfl, hV⟩

theorem d_X12_peek_0 : decode i_X12_peek.2.1 0 = .ok (.aload_n 0, 1) := by decide +kernel
theorem d_X12_peek_1 : decode i_X12_peek.2.1 1 = .ok (.getfield 99, 3) := by decide +kernel
theorem d_X12_peek_4 : decode i_X12_peek.2.1 4 = .ok (.aload_n 0, 1) := by decide +kernel
theorem d_X12_peek_5 : decode i_X12_peek.2.1 5 = .ok (.getfield 95, 3) := by decide +kernel
theorem d_X12_peek_8 : decode i_X12_peek.2.1 8 = .ok (.if_icmp .ge 30, 3) := by decide +kernel
theorem d_X12_peek_11 : decode i_X12_peek.2.1 11 = .ok (.aload_n 0, 1) := by decide +kernel
theorem d_X12_peek_12 : decode i_X12_peek.2.1 12 = .ok (.getfield 7, 3) := by decide +kernel
theorem d_X12_peek_15 : decode i_X12_peek.2.1 15 = .ok (.aload_n 0, 1) := by decide +kernel
theorem d_X12_peek_16 : decode i_X12_peek.2.1 16 = .ok (.getfield 99, 3) := by decide +kernel
theorem d_X12_peek_19 : decode i_X12_peek.2.1 19 = .ok (.iaload, 1) := by decide +kernel
theorem d_X12_peek_20 : decode i_X12_peek.2.1 20 = .ok (.bipush 32, 2) := by decide +kernel
theorem d_X12_peek_22 : decode i_X12_peek.2.1 22 = .ok (.if_icmp .ne 16, 3) := by decide +kernel
theorem d_X12_peek_25 : decode i_X12_peek.2.1 25 = .ok (.aload_n 0, 1) := by decide +kernel
theorem d_X12_peek_26 : decode i_X12_peek.2.1 26 = .ok (.dup, 1) := by decide +kernel
theorem d_X12_peek_27 : decode i_X12_peek.2.1 27 = .ok (.getfield 99, 3) := by decide +kernel
theorem d_X12_peek_30 : decode i_X12_peek.2.1 30 = .ok (.iconst 1, 1) := by decide +kernel
theorem d_X12_peek_31 : decode i_X12_peek.2.1 31 = .ok (.iadd, 1) := by decide +kernel
theorem d_X12_peek_32 : decode i_X12_peek.2.1 32 = .ok (.putfield 99, 3) := by decide +kernel
theorem d_X12_peek_35 : decode i_X12_peek.2.1 35 = .ok (.goto (-35), 3) := by decide +kernel
theorem d_X12_peek_38 : decode i_X12_peek.2.1 38 = .ok (.aload_n 0, 1) := by decide +kernel
theorem d_X12_peek_39 : decode i_X12_peek.2.1 39 = .ok (.getfield 99, 3) := by decide +kernel
theorem d_X12_peek_42 : decode i_X12_peek.2.1 42 = .ok (.aload_n 0, 1) := by decide +kernel
theorem d_X12_peek_43 : decode i_X12_peek.2.1 43 = .ok (.getfield 95, 3) := by decide +kernel
theorem d_X12_peek_46 : decode i_X12_peek.2.1 46 = .ok (.if_icmp .ge 15, 3) := by decide +kernel
theorem d_X12_peek_49 : decode i_X12_peek.2.1 49 = .ok (.aload_n 0, 1) := by decide +kernel
theorem d_X12_peek_50 : decode i_X12_peek.2.1 50 = .ok (.getfield 7, 3) := by decide +kernel
theorem d_X12_peek_53 : decode i_X12_peek.2.1 53 = .ok (.aload_n 0, 1) := by decide +kernel
theorem d_X12_peek_54 : decode i_X12_peek.2.1 54 = .ok (.getfield 99, 3) := by decide +kernel
theorem d_X12_peek_57 : decode i_X12_peek.2.1 57 = .ok (.iaload, 1) := by decide +kernel
theorem d_X12_peek_58 : decode i_X12_peek.2.1 58 = .ok (.goto 4, 3) := by decide +kernel
theorem d_X12_peek_61 : decode i_X12_peek.2.1 61 = .ok (.iconst (-1), 1) := by decide +kernel
theorem d_X12_peek_62 : decode i_X12_peek.2.1 62 = .ok (.ireturn, 1) := by decide +kernel
def J_X12_peek_38 (x0 : Nat) (h : Hp) (Q : Int → Hp → Prop) : Prop :=
  hK h x0 = 11 ∧ (hK h x0 = 11 ∧ ((hI h x0 0 ≤ hI h x0 2 → (Q (-1) h)) ∧ (¬ hI h x0 0 ≤ hI h x0 2 → (hK h x0 = 11 ∧ (hK h x0 = 11 ∧ ((hK h (hR h x0 1) = 12 ∧ (0 : Int) ≤ hI h x0 2 ∧ hI h x0 2 < hL h (hR h x0 1)) ∧ (Q (hI h (hR h x0 1) (hI h x0 2)) h)))))))
theorem GJ_X12_peek_38 (x0 : Nat) (h : Hp) (Q : Int → Hp → Prop) (hV : J_X12_peek_38 x0 h Q) : Go i_X12_peek 38 [(0, .inr (.inr x0))] [] h (qI Q) := by
  unfold J_X12_peek_38 at hV
  refine s_aload_n d_X12_peek_38 rfl (ma 0 rfl) ?_
  obtain ⟨o, hV⟩ := hV
  refine f_RX12_99g rfl d_X12_peek_39 o ?_
  refine s_aload_n d_X12_peek_42 rfl (ma 0 rfl) ?_
  obtain ⟨o, hV⟩ := hV
  refine f_RX12_95g rfl d_X12_peek_43 o ?_
  refine s_icmp_ge (tgt := 61) d_X12_peek_46 (by decide) (fun c => ?_) (fun c => ?_)
  · have hV := hV.1 c
    refine s_iconst d_X12_peek_61 (okn rfl) ?_
    exact s_iret d_X12_peek_62 rfl rfl ⟨_, rfl, hV⟩
  · have hV := hV.2 c
    refine s_aload_n d_X12_peek_49 rfl (ma 0 rfl) ?_
    obtain ⟨o, hV⟩ := hV
    refine f_RX12_7g rfl d_X12_peek_50 o ?_
    refine s_aload_n d_X12_peek_53 rfl (ma 0 rfl) ?_
    obtain ⟨o, hV⟩ := hV
    refine f_RX12_99g rfl d_X12_peek_54 o ?_
    obtain ⟨o, hV⟩ := hV
    refine s_iald d_X12_peek_57 o.1 o.2.1 o.2.2 ?_
    refine s_goto (tgt := 62) d_X12_peek_58 (by decide) ?_
    exact s_iret d_X12_peek_62 rfl rfl ⟨_, rfl, hV⟩
def BLp_X12_peek_0 (x0 : Nat) (P0 : Hp → Prop) (h : Hp) (Q : Int → Hp → Prop) : Prop :=
  hK h x0 = 11 ∧ (hK h x0 = 11 ∧ ((hI h x0 0 ≤ hI h x0 2 → (J_X12_peek_38 x0 h Q)) ∧ (¬ hI h x0 0 ≤ hI h x0 2 → (hK h x0 = 11 ∧ (hK h x0 = 11 ∧ ((hK h (hR h x0 1) = 12 ∧ (0 : Int) ≤ hI h x0 2 ∧ hI h x0 2 < hL h (hR h x0 1)) ∧ ((hI h (hR h x0 1) (hI h x0 2) ≠ 32 → (J_X12_peek_38 x0 h Q)) ∧ (hI h (hR h x0 1) (hI h x0 2) = 32 → (hK h x0 = 11 ∧ (((-2147483648 : Int) ≤ (hI h x0 2) + 1 ∧ (hI h x0 2) + 1 ≤ (2147483647 : Int)) ∧ (hK h x0 = 11 ∧ ∀ h1 : Hp, h1 = wI h x0 2 ((hI h x0 2) + 1) → (P0 h1))))))))))))
def Lp_X12_peek_0 (x0 : Nat) (h : Hp) (Q : Int → Hp → Prop) : Prop := ∀ P0 : Hp → Prop, (∀ (h : Hp), BLp_X12_peek_0 x0 P0  h Q → P0  h) → P0  h
theorem Lp_X12_peek_0_ind {x0 : Nat} {Q : Int → Hp → Prop} (I : Hp → Prop) (μ : Hp → Nat) (hs : ∀ (P0 : Hp → Prop) (h : Hp), I  h → (∀ (h' : Hp), I  h' → μ  h' < μ  h → P0  h') → BLp_X12_peek_0 x0 P0  h Q) : ∀ (h : Hp), I  h → Lp_X12_peek_0 x0  h Q := by
  intro  h hI P0 hP
  have key : ∀ (n : Nat) (h : Hp), I  h → μ  h < n → P0  h := by
    intro n
    induction n with
    | zero => intro  h _ hl; exact absurd hl (Nat.not_lt_zero _)
    | succ n ih => intro  h hi hl; exact hP  h (hs P0  h hi (fun  h' hi' hl' => ih  h' hi' (by omega)))
  exact key _  h hI (Nat.lt_succ_self _)
theorem GLp_X12_peek_0 (x0 : Nat) (h : Hp) (Q : Int → Hp → Prop) (hV : Lp_X12_peek_0 x0  h Q) : Go i_X12_peek 0 [(0, .inr (.inr x0))] [] h (qI Q) := by
  refine hV (fun  h => Go i_X12_peek 0 [(0, .inr (.inr x0))] [] h (qI Q)) (fun  h hV => ?_)
  unfold BLp_X12_peek_0 at hV
  have hP0 : ∀ (h : Hp), Go i_X12_peek 0 [(0, .inr (.inr x0))] [] h (qI Q) → Go i_X12_peek 0 [(0, .inr (.inr x0))] [] h (qI Q) := fun  h z => z
  refine s_aload_n d_X12_peek_0 rfl (ma 0 rfl) ?_
  obtain ⟨o, hV⟩ := hV
  refine f_RX12_99g rfl d_X12_peek_1 o ?_
  refine s_aload_n d_X12_peek_4 rfl (ma 0 rfl) ?_
  obtain ⟨o, hV⟩ := hV
  refine f_RX12_95g rfl d_X12_peek_5 o ?_
  refine s_icmp_ge (tgt := 38) d_X12_peek_8 (by decide) (fun c => ?_) (fun c => ?_)
  · have hV := hV.1 c
    exact GJ_X12_peek_38 _ _ _ hV
  · have hV := hV.2 c
    refine s_aload_n d_X12_peek_11 rfl (ma 0 rfl) ?_
    obtain ⟨o, hV⟩ := hV
    refine f_RX12_7g rfl d_X12_peek_12 o ?_
    refine s_aload_n d_X12_peek_15 rfl (ma 0 rfl) ?_
    obtain ⟨o, hV⟩ := hV
    refine f_RX12_99g rfl d_X12_peek_16 o ?_
    obtain ⟨o, hV⟩ := hV
    refine s_iald d_X12_peek_19 o.1 o.2.1 o.2.2 ?_
    refine s_bipush d_X12_peek_20 (by decide) (okn rfl) ?_
    refine s_icmp_ne (tgt := 38) d_X12_peek_22 (by decide) (fun c => ?_) (fun c => ?_)
    · have hV := hV.1 c
      exact GJ_X12_peek_38 _ _ _ hV
    · have hV := hV.2 c
      refine s_aload_n d_X12_peek_25 rfl (ma 0 rfl) ?_
      refine s_dup d_X12_peek_26 rfl ?_
      obtain ⟨o, hV⟩ := hV
      refine f_RX12_99g rfl d_X12_peek_27 o ?_
      refine s_iconst d_X12_peek_30 (okn rfl) ?_
      obtain ⟨o, hV⟩ := hV
      refine s_iadd d_X12_peek_31 o ?_
      obtain ⟨o, hV⟩ := hV
      refine f_RX12_99p rfl d_X12_peek_32 o (fun h1 eh1 => ?_)
      have hV := hV h1 eh1
      refine s_goto (tgt := 0) d_X12_peek_35 (by decide) ?_
      exact hP0 _ hV
def V_X12_peek (x0 : Nat) (h : Hp) (Q : Int → Hp → Prop) : Prop :=
  Lp_X12_peek_0 x0 h Q
theorem G_X12_peek {x0 : Nat} (h : Hp) (Q : Int → Hp → Prop) (hV : V_X12_peek x0 h Q) : C_X12_peek x0 h Q := by
  unfold V_X12_peek at hV
  show Go i_X12_peek 0 [(0, .inr (.inr x0))] [] h (qI Q)
  exact GLp_X12_peek_0 _ _ _ hV

theorem d_X12_isBad_0 : decode i_X12_isBad.2.1 0 = .ok (.aload_n 0, 1) := by decide +kernel
theorem d_X12_isBad_1 : decode i_X12_isBad.2.1 1 = .ok (.iload_n 1, 1) := by decide +kernel
theorem d_X12_isBad_2 : decode i_X12_isBad.2.1 2 = .ok (.putfield 102, 3) := by decide +kernel
theorem d_X12_isBad_5 : decode i_X12_isBad.2.1 5 = .ok (.iconst 0, 1) := by decide +kernel
theorem d_X12_isBad_6 : decode i_X12_isBad.2.1 6 = .ok (.ireturn, 1) := by decide +kernel
def V_X12_isBad (x0 : Nat) (x1 : Int) (h : Hp) (Q : Int → Hp → Prop) : Prop :=
  hK h x0 = 11 ∧ ∀ h1 : Hp, h1 = wI h x0 4 x1 → (Q 0 h1)
theorem G_X12_isBad {x0 : Nat} {x1 : Int} (h : Hp) (Q : Int → Hp → Prop) (hV : V_X12_isBad x0 x1 h Q) : C_X12_isBad x0 x1 h Q := by
  unfold V_X12_isBad at hV
  show Go i_X12_isBad 0 [(0, .inr (.inr x0)), (1, .inl x1)] [] h (qI Q)
  refine s_aload_n d_X12_isBad_0 rfl (ma 0 rfl) ?_
  refine s_iload_n d_X12_isBad_1 rfl (ma 1 rfl) ?_
  obtain ⟨o, hV⟩ := hV
  refine f_RX12_102p rfl d_X12_isBad_2 o (fun h1 eh1 => ?_)
  have hV := hV h1 eh1
  refine s_iconst d_X12_isBad_5 (okn rfl) ?_
  exact s_iret d_X12_isBad_6 rfl (nar_z (Or.inl rfl)) ⟨_, rfl, hV⟩

theorem d_X12_isFigures_0 : decode i_X12_isFigures.2.1 0 = .ok (.iconst 0, 1) := by decide +kernel
theorem d_X12_isFigures_1 : decode i_X12_isFigures.2.1 1 = .ok (.istore 4, 2) := by decide +kernel
theorem d_X12_isFigures_3 : decode i_X12_isFigures.2.1 3 = .ok (.aload_n 0, 1) := by decide +kernel
theorem d_X12_isFigures_4 : decode i_X12_isFigures.2.1 4 = .ok (.invokevirtual 105, 3) := by decide +kernel
theorem d_X12_isFigures_7 : decode i_X12_isFigures.2.1 7 = .ok (.bipush 48, 2) := by decide +kernel
theorem d_X12_isFigures_9 : decode i_X12_isFigures.2.1 9 = .ok (.bipush 57, 2) := by decide +kernel
theorem d_X12_isFigures_11 : decode i_X12_isFigures.2.1 11 = .ok (.invokestatic 90, 3) := by decide +kernel
theorem d_X12_isFigures_14 : decode i_X12_isFigures.2.1 14 = .ok (.ifCond .eq 44, 3) := by decide +kernel
theorem d_X12_isFigures_17 : decode i_X12_isFigures.2.1 17 = .ok (.iload 4, 2) := by decide +kernel
theorem d_X12_isFigures_19 : decode i_X12_isFigures.2.1 19 = .ok (.iload_n 3, 1) := by decide +kernel
theorem d_X12_isFigures_20 : decode i_X12_isFigures.2.1 20 = .ok (.if_icmp .ne 9, 3) := by decide +kernel
theorem d_X12_isFigures_23 : decode i_X12_isFigures.2.1 23 = .ok (.aload_n 0, 1) := by decide +kernel
theorem d_X12_isFigures_24 : decode i_X12_isFigures.2.1 24 = .ok (.iconst 2, 1) := by decide +kernel
theorem d_X12_isFigures_25 : decode i_X12_isFigures.2.1 25 = .ok (.invokevirtual 109, 3) := by decide +kernel
theorem d_X12_isFigures_28 : decode i_X12_isFigures.2.1 28 = .ok (.ireturn, 1) := by decide +kernel
theorem d_X12_isFigures_29 : decode i_X12_isFigures.2.1 29 = .ok (.aload_n 1, 1) := by decide +kernel
theorem d_X12_isFigures_30 : decode i_X12_isFigures.2.1 30 = .ok (.iload_n 2, 1) := by decide +kernel
theorem d_X12_isFigures_31 : decode i_X12_isFigures.2.1 31 = .ok (.iload 4, 2) := by decide +kernel
theorem d_X12_isFigures_33 : decode i_X12_isFigures.2.1 33 = .ok (.iadd, 1) := by decide +kernel
theorem d_X12_isFigures_34 : decode i_X12_isFigures.2.1 34 = .ok (.aload_n 0, 1) := by decide +kernel
theorem d_X12_isFigures_35 : decode i_X12_isFigures.2.1 35 = .ok (.invokevirtual 105, 3) := by decide +kernel
theorem d_X12_isFigures_38 : decode i_X12_isFigures.2.1 38 = .ok (.bipush 48, 2) := by decide +kernel
theorem d_X12_isFigures_40 : decode i_X12_isFigures.2.1 40 = .ok (.isub, 1) := by decide +kernel
theorem d_X12_isFigures_41 : decode i_X12_isFigures.2.1 41 = .ok (.iastore, 1) := by decide +kernel
theorem d_X12_isFigures_42 : decode i_X12_isFigures.2.1 42 = .ok (.iinc 4 1, 3) := by decide +kernel
theorem d_X12_isFigures_45 : decode i_X12_isFigures.2.1 45 = .ok (.aload_n 0, 1) := by decide +kernel
theorem d_X12_isFigures_46 : decode i_X12_isFigures.2.1 46 = .ok (.dup, 1) := by decide +kernel
theorem d_X12_isFigures_47 : decode i_X12_isFigures.2.1 47 = .ok (.getfield 99, 3) := by decide +kernel
theorem d_X12_isFigures_50 : decode i_X12_isFigures.2.1 50 = .ok (.iconst 1, 1) := by decide +kernel
theorem d_X12_isFigures_51 : decode i_X12_isFigures.2.1 51 = .ok (.iadd, 1) := by decide +kernel
theorem d_X12_isFigures_52 : decode i_X12_isFigures.2.1 52 = .ok (.putfield 99, 3) := by decide +kernel
theorem d_X12_isFigures_55 : decode i_X12_isFigures.2.1 55 = .ok (.goto (-52), 3) := by decide +kernel
theorem d_X12_isFigures_58 : decode i_X12_isFigures.2.1 58 = .ok (.iload 4, 2) := by decide +kernel
theorem d_X12_isFigures_60 : decode i_X12_isFigures.2.1 60 = .ok (.ifCond .eq 12, 3) := by decide +kernel
theorem d_X12_isFigures_63 : decode i_X12_isFigures.2.1 63 = .ok (.aload_n 0, 1) := by decide +kernel
theorem d_X12_isFigures_64 : decode i_X12_isFigures.2.1 64 = .ok (.invokevirtual 105, 3) := by decide +kernel
theorem d_X12_isFigures_67 : decode i_X12_isFigures.2.1 67 = .ok (.bipush 59, 2) := by decide +kernel
theorem d_X12_isFigures_69 : decode i_X12_isFigures.2.1 69 = .ok (.if_icmp .eq 9, 3) := by decide +kernel
theorem d_X12_isFigures_72 : decode i_X12_isFigures.2.1 72 = .ok (.aload_n 0, 1) := by decide +kernel
theorem d_X12_isFigures_73 : decode i_X12_isFigures.2.1 73 = .ok (.iconst 1, 1) := by decide +kernel
theorem d_X12_isFigures_74 : decode i_X12_isFigures.2.1 74 = .ok (.invokevirtual 109, 3) := by decide +kernel
theorem d_X12_isFigures_77 : decode i_X12_isFigures.2.1 77 = .ok (.ireturn, 1) := by decide +kernel
theorem d_X12_isFigures_78 : decode i_X12_isFigures.2.1 78 = .ok (.aload_n 0, 1) := by decide +kernel
theorem d_X12_isFigures_79 : decode i_X12_isFigures.2.1 79 = .ok (.dup, 1) := by decide +kernel
theorem d_X12_isFigures_80 : decode i_X12_isFigures.2.1 80 = .ok (.getfield 99, 3) := by decide +kernel
theorem d_X12_isFigures_83 : decode i_X12_isFigures.2.1 83 = .ok (.iconst 1, 1) := by decide +kernel
theorem d_X12_isFigures_84 : decode i_X12_isFigures.2.1 84 = .ok (.iadd, 1) := by decide +kernel
theorem d_X12_isFigures_85 : decode i_X12_isFigures.2.1 85 = .ok (.putfield 99, 3) := by decide +kernel
theorem d_X12_isFigures_88 : decode i_X12_isFigures.2.1 88 = .ok (.aload_n 0, 1) := by decide +kernel
theorem d_X12_isFigures_89 : decode i_X12_isFigures.2.1 89 = .ok (.iload 4, 2) := by decide +kernel
theorem d_X12_isFigures_91 : decode i_X12_isFigures.2.1 91 = .ok (.putfield 113, 3) := by decide +kernel
theorem d_X12_isFigures_94 : decode i_X12_isFigures.2.1 94 = .ok (.iconst 1, 1) := by decide +kernel
theorem d_X12_isFigures_95 : decode i_X12_isFigures.2.1 95 = .ok (.ireturn, 1) := by decide +kernel
def J_X12_isFigures_72 (x0 : Nat) (h : Hp) (Q : Int → Hp → Prop) : Prop :=
  hK h x0 = 11 ∧ C_X12_isBad x0 1 h (fun r2 h1 => (((r2 : Int) = 0 ∨ (r2 : Int) = 1) ∧ Q r2 h1))
theorem GJ_X12_isFigures_72 (x0 : Nat) (h : Hp) (Q : Int → Hp → Prop) (hV : J_X12_isFigures_72 x0 h Q) : Go i_X12_isFigures 72 [(0, .inr (.inr x0))] [] h (qI Q) := by
  unfold J_X12_isFigures_72 at hV
  refine s_aload_n d_X12_isFigures_72 rfl (ma 0 rfl) ?_
  refine s_iconst d_X12_isFigures_73 (okn rfl) ?_
  obtain ⟨o, hV⟩ := hV
  refine v_RX12_109 rfl (Nat.le_of_ble_eq_true rfl) d_X12_isFigures_74 o (Nat.le_of_ble_eq_true rfl) hV (fun r2 h1 hV => ?_)
  exact s_iret d_X12_isFigures_77 rfl (nar_z hV.1) ⟨_, rfl, hV.2⟩
def BLp_X12_isFigures_3 (x0 : Nat) (x1 : Nat) (x2 : Int) (x3 : Int) (P3 : Int → Hp → Prop) (x4 : Int) (h : Hp) (Q : Int → Hp → Prop) : Prop :=
  hK h x0 = 11 ∧ C_X12_peek x0  h (fun r2 h1 => (C_X12_is r2 48 57 h1 (fun r4 h3 => ((r4 = 0 → ((x4 = 0 → (J_X12_isFigures_72 x0 h3 Q)) ∧ (¬ x4 = 0 → (hK h3 x0 = 11 ∧ C_X12_peek x0  h3 (fun r6 h5 => ((r6 = 59 → (hK h5 x0 = 11 ∧ (((-2147483648 : Int) ≤ (hI h5 x0 2) + 1 ∧ (hI h5 x0 2) + 1 ≤ (2147483647 : Int)) ∧ (hK h5 x0 = 11 ∧ ∀ h7 : Hp, h7 = wI h5 x0 2 ((hI h5 x0 2) + 1) → (hK h7 x0 = 11 ∧ ∀ h8 : Hp, h8 = wI h7 x0 31 x4 → (Q 1 h8)))))) ∧ (¬ r6 = 59 → (J_X12_isFigures_72 x0 h5 Q)))))))) ∧ (¬ r4 = 0 → ((x4 ≠ x3 → (((-2147483648 : Int) ≤ x2 + x4 ∧ x2 + x4 ≤ (2147483647 : Int)) ∧ (hK h3 x0 = 11 ∧ C_X12_peek x0  h3 (fun r10 h9 => (((-2147483648 : Int) ≤ r10 - 48 ∧ r10 - 48 ≤ (2147483647 : Int)) ∧ ((hK h9 x1 = 12 ∧ (0 : Int) ≤ x2 + x4 ∧ x2 + x4 < hL h9 x1) ∧ ∀ h11 : Hp, h11 = wI h9 x1 (x2 + x4) (r10 - 48) → (((-2147483648 : Int) ≤ x4 + 1 ∧ x4 + 1 ≤ (2147483647 : Int)) ∧ (hK h11 x0 = 11 ∧ (((-2147483648 : Int) ≤ (hI h11 x0 2) + 1 ∧ (hI h11 x0 2) + 1 ≤ (2147483647 : Int)) ∧ (hK h11 x0 = 11 ∧ ∀ h12 : Hp, h12 = wI h11 x0 2 ((hI h11 x0 2) + 1) → (P3 (x4 + 1) h12))))))))))) ∧ (x4 = x3 → (hK h3 x0 = 11 ∧ C_X12_isBad x0 2 h3 (fun r14 h13 => (((r14 : Int) = 0 ∨ (r14 : Int) = 1) ∧ Q r14 h13))))))))))
def Lp_X12_isFigures_3 (x0 : Nat) (x1 : Nat) (x2 : Int) (x3 : Int) (x4 : Int) (h : Hp) (Q : Int → Hp → Prop) : Prop := ∀ P3 : Int → Hp → Prop, (∀ (x4 : Int) (h : Hp), BLp_X12_isFigures_3 x0 x1 x2 x3 P3 x4 h Q → P3 x4 h) → P3 x4 h
theorem Lp_X12_isFigures_3_ind {x0 : Nat} {x1 : Nat} {x2 : Int} {x3 : Int} {Q : Int → Hp → Prop} (I : Int → Hp → Prop) (μ : Int → Hp → Nat) (hs : ∀ (P3 : Int → Hp → Prop) (x4 : Int) (h : Hp), I x4 h → (∀ (x4' : Int) (h' : Hp), I x4' h' → μ x4' h' < μ x4 h → P3 x4' h') → BLp_X12_isFigures_3 x0 x1 x2 x3 P3 x4 h Q) : ∀ (x4 : Int) (h : Hp), I x4 h → Lp_X12_isFigures_3 x0 x1 x2 x3 x4 h Q := by
  intro x4 h hI P3 hP
  have key : ∀ (n : Nat) (x4 : Int) (h : Hp), I x4 h → μ x4 h < n → P3 x4 h := by
    intro n
    induction n with
    | zero => intro x4 h _ hl; exact absurd hl (Nat.not_lt_zero _)
    | succ n ih => intro x4 h hi hl; exact hP x4 h (hs P3 x4 h hi (fun x4 h' hi' hl' => ih x4 h' hi' (by omega)))
  exact key _ x4 h hI (Nat.lt_succ_self _)
theorem GLp_X12_isFigures_3 (x0 : Nat) (x1 : Nat) (x2 : Int) (x3 : Int) (x4 : Int) (h : Hp) (Q : Int → Hp → Prop) (hV : Lp_X12_isFigures_3 x0 x1 x2 x3 x4 h Q) : Go i_X12_isFigures 3 [(0, .inr (.inr x0)), (1, .inr (.inr x1)), (2, .inl x2), (3, .inl x3), (4, .inl x4)] [] h (qI Q) := by
  refine hV (fun x4 h => Go i_X12_isFigures 3 [(0, .inr (.inr x0)), (1, .inr (.inr x1)), (2, .inl x2), (3, .inl x3), (4, .inl x4)] [] h (qI Q)) (fun x4 h hV => ?_)
  unfold BLp_X12_isFigures_3 at hV
  have hP3 : ∀ (x4 : Int) (h : Hp), Go i_X12_isFigures 3 [(0, .inr (.inr x0)), (1, .inr (.inr x1)), (2, .inl x2), (3, .inl x3), (4, .inl x4)] [] h (qI Q) → Go i_X12_isFigures 3 [(0, .inr (.inr x0)), (1, .inr (.inr x1)), (2, .inl x2), (3, .inl x3), (4, .inl x4)] [] h (qI Q) := fun _ h z => z
  refine s_aload_n d_X12_isFigures_3 rfl (ma 0 rfl) ?_
  obtain ⟨o, hV⟩ := hV
  refine v_RX12_105 rfl (Nat.le_of_ble_eq_true rfl) d_X12_isFigures_4 o (Nat.le_of_ble_eq_true rfl) hV (fun r2 h1 hV => ?_)
  refine s_bipush d_X12_isFigures_7 (by decide) (okn rfl) ?_
  refine s_bipush d_X12_isFigures_9 (by decide) (okn rfl) ?_
  refine v_RX12_90 rfl (Nat.le_of_ble_eq_true rfl) d_X12_isFigures_11 (Nat.le_of_ble_eq_true rfl) hV (fun r4 h3 hV => ?_)
  refine s_if_eq (tgt := 58) d_X12_isFigures_14 (by decide) (fun c => ?_) (fun c => ?_)
  · have hV := hV.1 c
    refine s_iload d_X12_isFigures_58 (ma 4 rfl) ?_
    refine s_if_eq (tgt := 72) d_X12_isFigures_60 (by decide) (fun c => ?_) (fun c => ?_)
    · have hV := hV.1 c
      refine s_pick (lv' := [(0, .inr (.inr x0))]) [0] rfl ?_
      exact GJ_X12_isFigures_72 _ _ _ hV
    · have hV := hV.2 c
      refine s_aload_n d_X12_isFigures_63 rfl (ma 0 rfl) ?_
      obtain ⟨o, hV⟩ := hV
      refine v_RX12_105 rfl (Nat.le_of_ble_eq_true rfl) d_X12_isFigures_64 o (Nat.le_of_ble_eq_true rfl) hV (fun r6 h5 hV => ?_)
      refine s_bipush d_X12_isFigures_67 (by decide) (okn rfl) ?_
      refine s_icmp_eq (tgt := 78) d_X12_isFigures_69 (by decide) (fun c => ?_) (fun c => ?_)
      · have hV := hV.1 c
        refine s_aload_n d_X12_isFigures_78 rfl (ma 0 rfl) ?_
        refine s_dup d_X12_isFigures_79 rfl ?_
        obtain ⟨o, hV⟩ := hV
        refine f_RX12_99g rfl d_X12_isFigures_80 o ?_
        refine s_iconst d_X12_isFigures_83 (okn rfl) ?_
        obtain ⟨o, hV⟩ := hV
        refine s_iadd d_X12_isFigures_84 o ?_
        obtain ⟨o, hV⟩ := hV
        refine f_RX12_99p rfl d_X12_isFigures_85 o (fun h7 eh7 => ?_)
        have hV := hV h7 eh7
        refine s_aload_n d_X12_isFigures_88 rfl (ma 0 rfl) ?_
        refine s_iload d_X12_isFigures_89 (ma 4 rfl) ?_
        obtain ⟨o, hV⟩ := hV
        refine f_RX12_113p rfl d_X12_isFigures_91 o (fun h8 eh8 => ?_)
        have hV := hV h8 eh8
        refine s_iconst d_X12_isFigures_94 (okn rfl) ?_
        exact s_iret d_X12_isFigures_95 rfl (nar_z (Or.inr rfl)) ⟨_, rfl, hV⟩
      · have hV := hV.2 c
        refine s_pick (lv' := [(0, .inr (.inr x0))]) [0] rfl ?_
        exact GJ_X12_isFigures_72 _ _ _ hV
  · have hV := hV.2 c
    refine s_iload d_X12_isFigures_17 (ma 4 rfl) ?_
    refine s_iload_n d_X12_isFigures_19 rfl (ma 3 rfl) ?_
    refine s_icmp_ne (tgt := 29) d_X12_isFigures_20 (by decide) (fun c => ?_) (fun c => ?_)
    · have hV := hV.1 c
      refine s_aload_n d_X12_isFigures_29 rfl (ma 1 rfl) ?_
      refine s_iload_n d_X12_isFigures_30 rfl (ma 2 rfl) ?_
      refine s_iload d_X12_isFigures_31 (ma 4 rfl) ?_
      obtain ⟨o, hV⟩ := hV
      refine s_iadd d_X12_isFigures_33 o ?_
      refine s_aload_n d_X12_isFigures_34 rfl (ma 0 rfl) ?_
      obtain ⟨o, hV⟩ := hV
      refine v_RX12_105 rfl (Nat.le_of_ble_eq_true rfl) d_X12_isFigures_35 o (Nat.le_of_ble_eq_true rfl) hV (fun r10 h9 hV => ?_)
      refine s_bipush d_X12_isFigures_38 (by decide) (okn rfl) ?_
      obtain ⟨o, hV⟩ := hV
      refine s_isub d_X12_isFigures_40 o ?_
      obtain ⟨o, hV⟩ := hV
      refine s_iast d_X12_isFigures_41 o.1 o.2.1 o.2.2 ?_
      refine s_nmH (fun h11 eh11 => ?_)
      have hV := hV h11 eh11
      obtain ⟨o, hV⟩ := hV
      refine s_iinc (lv' := [(4, .inl (x4 + 1)), (0, .inr (.inr x0)), (1, .inr (.inr x1)), (2, .inl x2), (3, .inl x3)]) d_X12_isFigures_42 (ma 4 rfl) o (Nat.le_of_ble_eq_true rfl) rfl ?_
      refine s_aload_n d_X12_isFigures_45 rfl (ma 1 rfl) ?_
      refine s_dup d_X12_isFigures_46 rfl ?_
      obtain ⟨o, hV⟩ := hV
      refine f_RX12_99g rfl d_X12_isFigures_47 o ?_
      refine s_iconst d_X12_isFigures_50 (okn rfl) ?_
      obtain ⟨o, hV⟩ := hV
      refine s_iadd d_X12_isFigures_51 o ?_
      obtain ⟨o, hV⟩ := hV
      refine f_RX12_99p rfl d_X12_isFigures_52 o (fun h12 eh12 => ?_)
      have hV := hV h12 eh12
      refine s_goto (tgt := 3) d_X12_isFigures_55 (by decide) ?_
      refine s_pick (lv' := [(0, .inr (.inr x0)), (1, .inr (.inr x1)), (2, .inl x2), (3, .inl x3), (4, .inl (x4 + 1))]) [1, 2, 3, 4, 0] rfl ?_
      exact hP3 _ _ hV
    · have hV := hV.2 c
      refine s_aload_n d_X12_isFigures_23 rfl (ma 0 rfl) ?_
      refine s_iconst d_X12_isFigures_24 (okn rfl) ?_
      obtain ⟨o, hV⟩ := hV
      refine v_RX12_109 rfl (Nat.le_of_ble_eq_true rfl) d_X12_isFigures_25 o (Nat.le_of_ble_eq_true rfl) hV (fun r14 h13 hV => ?_)
      exact s_iret d_X12_isFigures_28 rfl (nar_z hV.1) ⟨_, rfl, hV.2⟩
def V_X12_isFigures (x0 : Nat) (x1 : Nat) (x2 : Int) (x3 : Int) (h : Hp) (Q : Int → Hp → Prop) : Prop :=
  Lp_X12_isFigures_3 x0 x1 x2 x3 0 h Q
theorem G_X12_isFigures {x0 : Nat} {x1 : Nat} {x2 : Int} {x3 : Int} (h : Hp) (Q : Int → Hp → Prop) (hV : V_X12_isFigures x0 x1 x2 x3 h Q) : C_X12_isFigures x0 x1 x2 x3 h Q := by
  unfold V_X12_isFigures at hV
  show Go i_X12_isFigures 0 [(0, .inr (.inr x0)), (1, .inr (.inr x1)), (2, .inl x2), (3, .inl x3)] [] h (qI Q)
  refine s_iconst d_X12_isFigures_0 (okn rfl) ?_
  refine s_istore (lv' := [(4, .inl 0), (0, .inr (.inr x0)), (1, .inr (.inr x1)), (2, .inl x2), (3, .inl x3)]) d_X12_isFigures_1 (Nat.le_of_ble_eq_true rfl) rfl ?_
  refine s_pick (lv' := [(0, .inr (.inr x0)), (1, .inr (.inr x1)), (2, .inl x2), (3, .inl x3), (4, .inl 0)]) [1, 2, 3, 4, 0] rfl ?_
  exact GLp_X12_isFigures_3 _ _ _ _ _ _ _ hV

theorem d_X12_isClause_0 : decode i_X12_isClause.2.1 0 = .ok (.aload_n 0, 1) := by decide +kernel
theorem d_X12_isClause_1 : decode i_X12_isClause.2.1 1 = .ok (.invokevirtual 105, 3) := by decide +kernel
theorem d_X12_isClause_4 : decode i_X12_isClause.2.1 4 = .ok (.istore_n 1, 1) := by decide +kernel
theorem d_X12_isClause_5 : decode i_X12_isClause.2.1 5 = .ok (.iload_n 1, 1) := by decide +kernel
theorem d_X12_isClause_6 : decode i_X12_isClause.2.1 6 = .ok (.bipush 114, 2) := by decide +kernel
theorem d_X12_isClause_8 : decode i_X12_isClause.2.1 8 = .ok (.if_icmp .ne 7, 3) := by decide +kernel
theorem d_X12_isClause_11 : decode i_X12_isClause.2.1 11 = .ok (.iconst 1, 1) := by decide +kernel
theorem d_X12_isClause_12 : decode i_X12_isClause.2.1 12 = .ok (.goto 4, 3) := by decide +kernel
theorem d_X12_isClause_15 : decode i_X12_isClause.2.1 15 = .ok (.iconst 0, 1) := by decide +kernel
theorem d_X12_isClause_16 : decode i_X12_isClause.2.1 16 = .ok (.istore_n 2, 1) := by decide +kernel
theorem d_X12_isClause_17 : decode i_X12_isClause.2.1 17 = .ok (.iload_n 2, 1) := by decide +kernel
theorem d_X12_isClause_18 : decode i_X12_isClause.2.1 18 = .ok (.ifCond .ne 9, 3) := by decide +kernel
theorem d_X12_isClause_21 : decode i_X12_isClause.2.1 21 = .ok (.iload_n 1, 1) := by decide +kernel
theorem d_X12_isClause_22 : decode i_X12_isClause.2.1 22 = .ok (.bipush 119, 2) := by decide +kernel
theorem d_X12_isClause_24 : decode i_X12_isClause.2.1 24 = .ok (.if_icmp .ne 14, 3) := by decide +kernel
theorem d_X12_isClause_27 : decode i_X12_isClause.2.1 27 = .ok (.iload_n 2, 1) := by decide +kernel
theorem d_X12_isClause_28 : decode i_X12_isClause.2.1 28 = .ok (.ifCond .ne 16, 3) := by decide +kernel
theorem d_X12_isClause_31 : decode i_X12_isClause.2.1 31 = .ok (.aload_n 0, 1) := by decide +kernel
theorem d_X12_isClause_32 : decode i_X12_isClause.2.1 32 = .ok (.getfield 116, 3) := by decide +kernel
theorem d_X12_isClause_35 : decode i_X12_isClause.2.1 35 = .ok (.ifCond .ne 9, 3) := by decide +kernel
theorem d_X12_isClause_38 : decode i_X12_isClause.2.1 38 = .ok (.aload_n 0, 1) := by decide +kernel
theorem d_X12_isClause_39 : decode i_X12_isClause.2.1 39 = .ok (.iconst 1, 1) := by decide +kernel
theorem d_X12_isClause_40 : decode i_X12_isClause.2.1 40 = .ok (.invokevirtual 109, 3) := by decide +kernel
theorem d_X12_isClause_43 : decode i_X12_isClause.2.1 43 = .ok (.ireturn, 1) := by decide +kernel
theorem d_X12_isClause_44 : decode i_X12_isClause.2.1 44 = .ok (.iload_n 2, 1) := by decide +kernel
theorem d_X12_isClause_45 : decode i_X12_isClause.2.1 45 = .ok (.ifCond .eq 13, 3) := by decide +kernel
theorem d_X12_isClause_48 : decode i_X12_isClause.2.1 48 = .ok (.aload_n 0, 1) := by decide +kernel
theorem d_X12_isClause_49 : decode i_X12_isClause.2.1 49 = .ok (.getfield 116, 3) := by decide +kernel
theorem d_X12_isClause_52 : decode i_X12_isClause.2.1 52 = .ok (.ifCond .le 21, 3) := by decide +kernel
theorem d_X12_isClause_55 : decode i_X12_isClause.2.1 55 = .ok (.goto 12, 3) := by decide +kernel
theorem d_X12_isClause_58 : decode i_X12_isClause.2.1 58 = .ok (.aload_n 0, 1) := by decide +kernel
theorem d_X12_isClause_59 : decode i_X12_isClause.2.1 59 = .ok (.getfield 119, 3) := by decide +kernel
theorem d_X12_isClause_62 : decode i_X12_isClause.2.1 62 = .ok (.bipush 6, 2) := by decide +kernel
theorem d_X12_isClause_64 : decode i_X12_isClause.2.1 64 = .ok (.if_icmp .ne 9, 3) := by decide +kernel
theorem d_X12_isClause_67 : decode i_X12_isClause.2.1 67 = .ok (.aload_n 0, 1) := by decide +kernel
theorem d_X12_isClause_68 : decode i_X12_isClause.2.1 68 = .ok (.iconst 3, 1) := by decide +kernel
theorem d_X12_isClause_69 : decode i_X12_isClause.2.1 69 = .ok (.invokevirtual 109, 3) := by decide +kernel
theorem d_X12_isClause_72 : decode i_X12_isClause.2.1 72 = .ok (.ireturn, 1) := by decide +kernel
theorem d_X12_isClause_73 : decode i_X12_isClause.2.1 73 = .ok (.aload_n 0, 1) := by decide +kernel
theorem d_X12_isClause_74 : decode i_X12_isClause.2.1 74 = .ok (.dup, 1) := by decide +kernel
theorem d_X12_isClause_75 : decode i_X12_isClause.2.1 75 = .ok (.getfield 99, 3) := by decide +kernel
theorem d_X12_isClause_78 : decode i_X12_isClause.2.1 78 = .ok (.iconst 1, 1) := by decide +kernel
theorem d_X12_isClause_79 : decode i_X12_isClause.2.1 79 = .ok (.iadd, 1) := by decide +kernel
theorem d_X12_isClause_80 : decode i_X12_isClause.2.1 80 = .ok (.putfield 99, 3) := by decide +kernel
theorem d_X12_isClause_83 : decode i_X12_isClause.2.1 83 = .ok (.aload_n 0, 1) := by decide +kernel
theorem d_X12_isClause_84 : decode i_X12_isClause.2.1 84 = .ok (.iload_n 2, 1) := by decide +kernel
theorem d_X12_isClause_85 : decode i_X12_isClause.2.1 85 = .ok (.ifCond .eq 10, 3) := by decide +kernel
theorem d_X12_isClause_88 : decode i_X12_isClause.2.1 88 = .ok (.aload_n 0, 1) := by decide +kernel
theorem d_X12_isClause_89 : decode i_X12_isClause.2.1 89 = .ok (.getfield 17, 3) := by decide +kernel
theorem d_X12_isClause_92 : decode i_X12_isClause.2.1 92 = .ok (.goto 7, 3) := by decide +kernel
theorem d_X12_isClause_95 : decode i_X12_isClause.2.1 95 = .ok (.aload_n 0, 1) := by decide +kernel
theorem d_X12_isClause_96 : decode i_X12_isClause.2.1 96 = .ok (.getfield 23, 3) := by decide +kernel
theorem d_X12_isClause_99 : decode i_X12_isClause.2.1 99 = .ok (.iload_n 2, 1) := by decide +kernel
theorem d_X12_isClause_100 : decode i_X12_isClause.2.1 100 = .ok (.ifCond .eq 7, 3) := by decide +kernel
theorem d_X12_isClause_103 : decode i_X12_isClause.2.1 103 = .ok (.iconst 0, 1) := by decide +kernel
theorem d_X12_isClause_104 : decode i_X12_isClause.2.1 104 = .ok (.goto 10, 3) := by decide +kernel
theorem d_X12_isClause_107 : decode i_X12_isClause.2.1 107 = .ok (.bipush 8, 2) := by decide +kernel
theorem d_X12_isClause_109 : decode i_X12_isClause.2.1 109 = .ok (.aload_n 0, 1) := by decide +kernel
theorem d_X12_isClause_110 : decode i_X12_isClause.2.1 110 = .ok (.getfield 119, 3) := by decide +kernel
theorem d_X12_isClause_113 : decode i_X12_isClause.2.1 113 = .ok (.imul, 1) := by decide +kernel
theorem d_X12_isClause_114 : decode i_X12_isClause.2.1 114 = .ok (.iload_n 2, 1) := by decide +kernel
theorem d_X12_isClause_115 : decode i_X12_isClause.2.1 115 = .ok (.ifCond .eq 8, 3) := by decide +kernel
theorem d_X12_isClause_118 : decode i_X12_isClause.2.1 118 = .ok (.bipush 60, 2) := by decide +kernel
theorem d_X12_isClause_120 : decode i_X12_isClause.2.1 120 = .ok (.goto 5, 3) := by decide +kernel
theorem d_X12_isClause_123 : decode i_X12_isClause.2.1 123 = .ok (.bipush 8, 2) := by decide +kernel
theorem d_X12_isClause_125 : decode i_X12_isClause.2.1 125 = .ok (.invokevirtual 122, 3) := by decide +kernel
theorem d_X12_isClause_128 : decode i_X12_isClause.2.1 128 = .ok (.ifCond .ne 5, 3) := by decide +kernel
theorem d_X12_isClause_131 : decode i_X12_isClause.2.1 131 = .ok (.iconst 0, 1) := by decide +kernel
theorem d_X12_isClause_132 : decode i_X12_isClause.2.1 132 = .ok (.ireturn, 1) := by decide +kernel
theorem d_X12_isClause_133 : decode i_X12_isClause.2.1 133 = .ok (.iload_n 2, 1) := by decide +kernel
theorem d_X12_isClause_134 : decode i_X12_isClause.2.1 134 = .ok (.ifCond .eq 14, 3) := by decide +kernel
theorem d_X12_isClause_137 : decode i_X12_isClause.2.1 137 = .ok (.aload_n 0, 1) := by decide +kernel
theorem d_X12_isClause_138 : decode i_X12_isClause.2.1 138 = .ok (.aload_n 0, 1) := by decide +kernel
theorem d_X12_isClause_139 : decode i_X12_isClause.2.1 139 = .ok (.getfield 113, 3) := by decide +kernel
theorem d_X12_isClause_142 : decode i_X12_isClause.2.1 142 = .ok (.putfield 116, 3) := by decide +kernel
theorem d_X12_isClause_145 : decode i_X12_isClause.2.1 145 = .ok (.goto 26, 3) := by decide +kernel
theorem d_X12_isClause_148 : decode i_X12_isClause.2.1 148 = .ok (.aload_n 0, 1) := by decide +kernel
theorem d_X12_isClause_149 : decode i_X12_isClause.2.1 149 = .ok (.getfield 20, 3) := by decide +kernel
theorem d_X12_isClause_152 : decode i_X12_isClause.2.1 152 = .ok (.aload_n 0, 1) := by decide +kernel
theorem d_X12_isClause_153 : decode i_X12_isClause.2.1 153 = .ok (.getfield 119, 3) := by decide +kernel
theorem d_X12_isClause_156 : decode i_X12_isClause.2.1 156 = .ok (.aload_n 0, 1) := by decide +kernel
theorem d_X12_isClause_157 : decode i_X12_isClause.2.1 157 = .ok (.getfield 113, 3) := by decide +kernel
theorem d_X12_isClause_160 : decode i_X12_isClause.2.1 160 = .ok (.iastore, 1) := by decide +kernel
theorem d_X12_isClause_161 : decode i_X12_isClause.2.1 161 = .ok (.aload_n 0, 1) := by decide +kernel
theorem d_X12_isClause_162 : decode i_X12_isClause.2.1 162 = .ok (.dup, 1) := by decide +kernel
theorem d_X12_isClause_163 : decode i_X12_isClause.2.1 163 = .ok (.getfield 119, 3) := by decide +kernel
theorem d_X12_isClause_166 : decode i_X12_isClause.2.1 166 = .ok (.iconst 1, 1) := by decide +kernel
theorem d_X12_isClause_167 : decode i_X12_isClause.2.1 167 = .ok (.iadd, 1) := by decide +kernel
theorem d_X12_isClause_168 : decode i_X12_isClause.2.1 168 = .ok (.putfield 119, 3) := by decide +kernel
theorem d_X12_isClause_171 : decode i_X12_isClause.2.1 171 = .ok (.iconst 1, 1) := by decide +kernel
theorem d_X12_isClause_172 : decode i_X12_isClause.2.1 172 = .ok (.ireturn, 1) := by decide +kernel
def J_X12_isClause_125 (x0 : Nat) (x2 : Int) (y0 : Int) (y1 : Int) (y2 : Nat) (y3 : Nat) (h : Hp) (Q : Int → Hp → Prop) : Prop :=
  hK h y3 = 11 ∧ C_X12_isFigures y3 y2 y1 y0 h (fun r2 h1 => ((r2 ≠ 0 → ((x2 = 0 → (hK h1 x0 = 11 ∧ (hK h1 x0 = 11 ∧ (hK h1 x0 = 11 ∧ ((hK h1 (hR h1 x0 8) = 12 ∧ (0 : Int) ≤ hI h1 x0 6 ∧ hI h1 x0 6 < hL h1 (hR h1 x0 8)) ∧ ∀ h3 : Hp, h3 = wI h1 (hR h1 x0 8) (hI h1 x0 6) (hI h1 x0 31) → (hK h3 x0 = 11 ∧ (((-2147483648 : Int) ≤ (hI h3 x0 6) + 1 ∧ (hI h3 x0 6) + 1 ≤ (2147483647 : Int)) ∧ (hK h3 x0 = 11 ∧ ∀ h4 : Hp, h4 = wI h3 x0 6 ((hI h3 x0 6) + 1) → (Q 1 h4))))))))) ∧ (¬ x2 = 0 → (hK h1 x0 = 11 ∧ (hK h1 x0 = 11 ∧ ∀ h5 : Hp, h5 = wI h1 x0 5 (hI h1 x0 31) → (Q 1 h5)))))) ∧ (r2 = 0 → (Q 0 h1))))
theorem GJ_X12_isClause_125 (x0 : Nat) (x2 : Int) (y0 : Int) (y1 : Int) (y2 : Nat) (y3 : Nat) (h : Hp) (Q : Int → Hp → Prop) (hV : J_X12_isClause_125 x0 x2 y0 y1 y2 y3 h Q) : Go i_X12_isClause 125 [(0, .inr (.inr x0)), (2, .inl x2)] [.inl y0, .inl y1, .inr (.inr y2), .inr (.inr y3)] h (qI Q) := by
  unfold J_X12_isClause_125 at hV
  obtain ⟨o, hV⟩ := hV
  refine v_RX12_122 rfl (Nat.le_of_ble_eq_true rfl) d_X12_isClause_125 o (Nat.le_of_ble_eq_true rfl) hV (fun r2 h1 hV => ?_)
  refine s_if_ne (tgt := 133) d_X12_isClause_128 (by decide) (fun c => ?_) (fun c => ?_)
  · have hV := hV.1 c
    refine s_iload_n d_X12_isClause_133 rfl (ma 1 rfl) ?_
    refine s_if_eq (tgt := 148) d_X12_isClause_134 (by decide) (fun c => ?_) (fun c => ?_)
    · have hV := hV.1 c
      refine s_aload_n d_X12_isClause_148 rfl (ma 0 rfl) ?_
      obtain ⟨o, hV⟩ := hV
      refine f_RX12_20g rfl d_X12_isClause_149 o ?_
      refine s_aload_n d_X12_isClause_152 rfl (ma 0 rfl) ?_
      obtain ⟨o, hV⟩ := hV
      refine f_RX12_119g rfl d_X12_isClause_153 o ?_
      refine s_aload_n d_X12_isClause_156 rfl (ma 0 rfl) ?_
      obtain ⟨o, hV⟩ := hV
      refine f_RX12_113g rfl d_X12_isClause_157 o ?_
      obtain ⟨o, hV⟩ := hV
      refine s_iast d_X12_isClause_160 o.1 o.2.1 o.2.2 ?_
      refine s_nmH (fun h3 eh3 => ?_)
      have hV := hV h3 eh3
      refine s_aload_n d_X12_isClause_161 rfl (ma 0 rfl) ?_
      refine s_dup d_X12_isClause_162 rfl ?_
      obtain ⟨o, hV⟩ := hV
      refine f_RX12_119g rfl d_X12_isClause_163 o ?_
      refine s_iconst d_X12_isClause_166 (okn rfl) ?_
      obtain ⟨o, hV⟩ := hV
      refine s_iadd d_X12_isClause_167 o ?_
      obtain ⟨o, hV⟩ := hV
      refine f_RX12_119p rfl d_X12_isClause_168 o (fun h4 eh4 => ?_)
      have hV := hV h4 eh4
      refine s_iconst d_X12_isClause_171 (okn rfl) ?_
      exact s_iret d_X12_isClause_172 rfl (nar_z (Or.inr rfl)) ⟨_, rfl, hV⟩
    · have hV := hV.2 c
      refine s_aload_n d_X12_isClause_137 rfl (ma 0 rfl) ?_
      refine s_aload_n d_X12_isClause_138 rfl (ma 0 rfl) ?_
      obtain ⟨o, hV⟩ := hV
      refine f_RX12_113g rfl d_X12_isClause_139 o ?_
      obtain ⟨o, hV⟩ := hV
      refine f_RX12_116p rfl d_X12_isClause_142 o (fun h5 eh5 => ?_)
      have hV := hV h5 eh5
      refine s_goto (tgt := 171) d_X12_isClause_145 (by decide) ?_
      refine s_iconst d_X12_isClause_171 (okn rfl) ?_
      exact s_iret d_X12_isClause_172 rfl (nar_z (Or.inr rfl)) ⟨_, rfl, hV⟩
  · have hV := hV.2 c
    refine s_iconst d_X12_isClause_131 (okn rfl) ?_
    exact s_iret d_X12_isClause_132 rfl (nar_z (Or.inl rfl)) ⟨_, rfl, hV⟩
def J_X12_isClause_114 (x0 : Nat) (x2 : Int) (y0 : Int) (y1 : Nat) (y2 : Nat) (h : Hp) (Q : Int → Hp → Prop) : Prop :=
  (x2 = 0 → (J_X12_isClause_125 x0 x2 8 y0 y1 y2 h Q)) ∧ (¬ x2 = 0 → (J_X12_isClause_125 x0 x2 60 y0 y1 y2 h Q))
theorem GJ_X12_isClause_114 (x0 : Nat) (x2 : Int) (y0 : Int) (y1 : Nat) (y2 : Nat) (h : Hp) (Q : Int → Hp → Prop) (hV : J_X12_isClause_114 x0 x2 y0 y1 y2 h Q) : Go i_X12_isClause 114 [(0, .inr (.inr x0)), (2, .inl x2)] [.inl y0, .inr (.inr y1), .inr (.inr y2)] h (qI Q) := by
  unfold J_X12_isClause_114 at hV
  refine s_iload_n d_X12_isClause_114 rfl (ma 1 rfl) ?_
  refine s_if_eq (tgt := 123) d_X12_isClause_115 (by decide) (fun c => ?_) (fun c => ?_)
  · have hV := hV.1 c
    refine s_bipush d_X12_isClause_123 (by decide) (okn rfl) ?_
    exact GJ_X12_isClause_125 _ _ _ _ _ _ _ _ hV
  · have hV := hV.2 c
    refine s_bipush d_X12_isClause_118 (by decide) (okn rfl) ?_
    refine s_goto (tgt := 125) d_X12_isClause_120 (by decide) ?_
    exact GJ_X12_isClause_125 _ _ _ _ _ _ _ _ hV
def J_X12_isClause_99 (x0 : Nat) (x2 : Int) (y0 : Nat) (y1 : Nat) (h : Hp) (Q : Int → Hp → Prop) : Prop :=
  (x2 = 0 → (hK h x0 = 11 ∧ (((-2147483648 : Int) ≤ 8 * (hI h x0 6) ∧ 8 * (hI h x0 6) ≤ (2147483647 : Int)) ∧ (J_X12_isClause_114 x0 x2 (8 * (hI h x0 6)) y0 y1 h Q)))) ∧ (¬ x2 = 0 → (J_X12_isClause_114 x0 x2 0 y0 y1 h Q))
theorem GJ_X12_isClause_99 (x0 : Nat) (x2 : Int) (y0 : Nat) (y1 : Nat) (h : Hp) (Q : Int → Hp → Prop) (hV : J_X12_isClause_99 x0 x2 y0 y1 h Q) : Go i_X12_isClause 99 [(0, .inr (.inr x0)), (2, .inl x2)] [.inr (.inr y0), .inr (.inr y1)] h (qI Q) := by
  unfold J_X12_isClause_99 at hV
  refine s_iload_n d_X12_isClause_99 rfl (ma 1 rfl) ?_
  refine s_if_eq (tgt := 107) d_X12_isClause_100 (by decide) (fun c => ?_) (fun c => ?_)
  · have hV := hV.1 c
    refine s_bipush d_X12_isClause_107 (by decide) (okn rfl) ?_
    refine s_aload_n d_X12_isClause_109 rfl (ma 0 rfl) ?_
    obtain ⟨o, hV⟩ := hV
    refine f_RX12_119g rfl d_X12_isClause_110 o ?_
    obtain ⟨o, hV⟩ := hV
    refine s_imul d_X12_isClause_113 o ?_
    exact GJ_X12_isClause_114 _ _ _ _ _ _ _ hV
  · have hV := hV.2 c
    refine s_iconst d_X12_isClause_103 (okn rfl) ?_
    refine s_goto (tgt := 114) d_X12_isClause_104 (by decide) ?_
    exact GJ_X12_isClause_114 _ _ _ _ _ _ _ hV
def J_X12_isClause_73 (x0 : Nat) (x2 : Int) (h : Hp) (Q : Int → Hp → Prop) : Prop :=
  hK h x0 = 11 ∧ (((-2147483648 : Int) ≤ (hI h x0 2) + 1 ∧ (hI h x0 2) + 1 ≤ (2147483647 : Int)) ∧ (hK h x0 = 11 ∧ ∀ h1 : Hp, h1 = wI h x0 2 ((hI h x0 2) + 1) → ((x2 = 0 → (hK h1 x0 = 11 ∧ (J_X12_isClause_99 x0 x2 (hR h1 x0 9) x0 h1 Q))) ∧ (¬ x2 = 0 → (hK h1 x0 = 11 ∧ (J_X12_isClause_99 x0 x2 (hR h1 x0 7) x0 h1 Q))))))
theorem GJ_X12_isClause_73 (x0 : Nat) (x2 : Int) (h : Hp) (Q : Int → Hp → Prop) (hV : J_X12_isClause_73 x0 x2 h Q) : Go i_X12_isClause 73 [(0, .inr (.inr x0)), (2, .inl x2)] [] h (qI Q) := by
  unfold J_X12_isClause_73 at hV
  refine s_aload_n d_X12_isClause_73 rfl (ma 0 rfl) ?_
  refine s_dup d_X12_isClause_74 rfl ?_
  obtain ⟨o, hV⟩ := hV
  refine f_RX12_99g rfl d_X12_isClause_75 o ?_
  refine s_iconst d_X12_isClause_78 (okn rfl) ?_
  obtain ⟨o, hV⟩ := hV
  refine s_iadd d_X12_isClause_79 o ?_
  obtain ⟨o, hV⟩ := hV
  refine f_RX12_99p rfl d_X12_isClause_80 o (fun h1 eh1 => ?_)
  have hV := hV h1 eh1
  refine s_aload_n d_X12_isClause_83 rfl (ma 0 rfl) ?_
  refine s_iload_n d_X12_isClause_84 rfl (ma 1 rfl) ?_
  refine s_if_eq (tgt := 95) d_X12_isClause_85 (by decide) (fun c => ?_) (fun c => ?_)
  · have hV := hV.1 c
    refine s_aload_n d_X12_isClause_95 rfl (ma 0 rfl) ?_
    obtain ⟨o, hV⟩ := hV
    refine f_RX12_23g rfl d_X12_isClause_96 o ?_
    exact GJ_X12_isClause_99 _ _ _ _ _ _ hV
  · have hV := hV.2 c
    refine s_aload_n d_X12_isClause_88 rfl (ma 0 rfl) ?_
    obtain ⟨o, hV⟩ := hV
    refine f_RX12_17g rfl d_X12_isClause_89 o ?_
    refine s_goto (tgt := 99) d_X12_isClause_92 (by decide) ?_
    exact GJ_X12_isClause_99 _ _ _ _ _ _ hV
def J_X12_isClause_67 (x0 : Nat) (h : Hp) (Q : Int → Hp → Prop) : Prop :=
  hK h x0 = 11 ∧ C_X12_isBad x0 3 h (fun r2 h1 => (((r2 : Int) = 0 ∨ (r2 : Int) = 1) ∧ Q r2 h1))
theorem GJ_X12_isClause_67 (x0 : Nat) (h : Hp) (Q : Int → Hp → Prop) (hV : J_X12_isClause_67 x0 h Q) : Go i_X12_isClause 67 [(0, .inr (.inr x0))] [] h (qI Q) := by
  unfold J_X12_isClause_67 at hV
  refine s_aload_n d_X12_isClause_67 rfl (ma 0 rfl) ?_
  refine s_iconst d_X12_isClause_68 (okn rfl) ?_
  obtain ⟨o, hV⟩ := hV
  refine v_RX12_109 rfl (Nat.le_of_ble_eq_true rfl) d_X12_isClause_69 o (Nat.le_of_ble_eq_true rfl) hV (fun r2 h1 hV => ?_)
  exact s_iret d_X12_isClause_72 rfl (nar_z hV.1) ⟨_, rfl, hV.2⟩
def J_X12_isClause_44 (x0 : Nat) (x2 : Int) (h : Hp) (Q : Int → Hp → Prop) : Prop :=
  (x2 = 0 → (hK h x0 = 11 ∧ ((hI h x0 6 ≠ 6 → (J_X12_isClause_73 x0 x2 h Q)) ∧ (hI h x0 6 = 6 → (J_X12_isClause_67 x0 h Q))))) ∧ (¬ x2 = 0 → (hK h x0 = 11 ∧ ((hI h x0 5 ≤ 0 → (J_X12_isClause_73 x0 x2 h Q)) ∧ (¬ hI h x0 5 ≤ 0 → (J_X12_isClause_67 x0 h Q)))))
theorem GJ_X12_isClause_44 (x0 : Nat) (x2 : Int) (h : Hp) (Q : Int → Hp → Prop) (hV : J_X12_isClause_44 x0 x2 h Q) : Go i_X12_isClause 44 [(0, .inr (.inr x0)), (2, .inl x2)] [] h (qI Q) := by
  unfold J_X12_isClause_44 at hV
  refine s_iload_n d_X12_isClause_44 rfl (ma 1 rfl) ?_
  refine s_if_eq (tgt := 58) d_X12_isClause_45 (by decide) (fun c => ?_) (fun c => ?_)
  · have hV := hV.1 c
    refine s_aload_n d_X12_isClause_58 rfl (ma 0 rfl) ?_
    obtain ⟨o, hV⟩ := hV
    refine f_RX12_119g rfl d_X12_isClause_59 o ?_
    refine s_bipush d_X12_isClause_62 (by decide) (okn rfl) ?_
    refine s_icmp_ne (tgt := 73) d_X12_isClause_64 (by decide) (fun c => ?_) (fun c => ?_)
    · have hV := hV.1 c
      exact GJ_X12_isClause_73 _ _ _ _ hV
    · have hV := hV.2 c
      refine s_pick (lv' := [(0, .inr (.inr x0))]) [0] rfl ?_
      exact GJ_X12_isClause_67 _ _ _ hV
  · have hV := hV.2 c
    refine s_aload_n d_X12_isClause_48 rfl (ma 0 rfl) ?_
    obtain ⟨o, hV⟩ := hV
    refine f_RX12_116g rfl d_X12_isClause_49 o ?_
    refine s_if_le (tgt := 73) d_X12_isClause_52 (by decide) (fun c => ?_) (fun c => ?_)
    · have hV := hV.1 c
      exact GJ_X12_isClause_73 _ _ _ _ hV
    · have hV := hV.2 c
      refine s_goto (tgt := 67) d_X12_isClause_55 (by decide) ?_
      refine s_pick (lv' := [(0, .inr (.inr x0))]) [0] rfl ?_
      exact GJ_X12_isClause_67 _ _ _ hV
def J_X12_isClause_38 (x0 : Nat) (h : Hp) (Q : Int → Hp → Prop) : Prop :=
  hK h x0 = 11 ∧ C_X12_isBad x0 1 h (fun r2 h1 => (((r2 : Int) = 0 ∨ (r2 : Int) = 1) ∧ Q r2 h1))
theorem GJ_X12_isClause_38 (x0 : Nat) (h : Hp) (Q : Int → Hp → Prop) (hV : J_X12_isClause_38 x0 h Q) : Go i_X12_isClause 38 [(0, .inr (.inr x0))] [] h (qI Q) := by
  unfold J_X12_isClause_38 at hV
  refine s_aload_n d_X12_isClause_38 rfl (ma 0 rfl) ?_
  refine s_iconst d_X12_isClause_39 (okn rfl) ?_
  obtain ⟨o, hV⟩ := hV
  refine v_RX12_109 rfl (Nat.le_of_ble_eq_true rfl) d_X12_isClause_40 o (Nat.le_of_ble_eq_true rfl) hV (fun r2 h1 hV => ?_)
  exact s_iret d_X12_isClause_43 rfl (nar_z hV.1) ⟨_, rfl, hV.2⟩
def J_X12_isClause_27 (x0 : Nat) (x2 : Int) (h : Hp) (Q : Int → Hp → Prop) : Prop :=
  (x2 ≠ 0 → (J_X12_isClause_44 x0 x2 h Q)) ∧ (x2 = 0 → (hK h x0 = 11 ∧ ((hI h x0 5 ≠ 0 → (J_X12_isClause_44 x0 x2 h Q)) ∧ (hI h x0 5 = 0 → (J_X12_isClause_38 x0 h Q)))))
theorem GJ_X12_isClause_27 (x0 : Nat) (x2 : Int) (h : Hp) (Q : Int → Hp → Prop) (hV : J_X12_isClause_27 x0 x2 h Q) : Go i_X12_isClause 27 [(0, .inr (.inr x0)), (2, .inl x2)] [] h (qI Q) := by
  unfold J_X12_isClause_27 at hV
  refine s_iload_n d_X12_isClause_27 rfl (ma 1 rfl) ?_
  refine s_if_ne (tgt := 44) d_X12_isClause_28 (by decide) (fun c => ?_) (fun c => ?_)
  · have hV := hV.1 c
    exact GJ_X12_isClause_44 _ _ _ _ hV
  · have hV := hV.2 c
    refine s_aload_n d_X12_isClause_31 rfl (ma 0 rfl) ?_
    obtain ⟨o, hV⟩ := hV
    refine f_RX12_116g rfl d_X12_isClause_32 o ?_
    refine s_if_ne (tgt := 44) d_X12_isClause_35 (by decide) (fun c => ?_) (fun c => ?_)
    · have hV := hV.1 c
      exact GJ_X12_isClause_44 _ _ _ _ hV
    · have hV := hV.2 c
      refine s_pick (lv' := [(0, .inr (.inr x0))]) [0] rfl ?_
      exact GJ_X12_isClause_38 _ _ _ hV
def J_X12_isClause_16 (x0 : Nat) (x1 : Int) (y0 : Int) (h : Hp) (Q : Int → Hp → Prop) : Prop :=
  (y0 ≠ 0 → (J_X12_isClause_27 x0 y0 h Q)) ∧ (y0 = 0 → ((x1 ≠ 119 → (J_X12_isClause_38 x0 h Q)) ∧ (x1 = 119 → (J_X12_isClause_27 x0 y0 h Q))))
theorem GJ_X12_isClause_16 (x0 : Nat) (x1 : Int) (y0 : Int) (h : Hp) (Q : Int → Hp → Prop) (hV : J_X12_isClause_16 x0 x1 y0 h Q) : Go i_X12_isClause 16 [(0, .inr (.inr x0)), (1, .inl x1)] [.inl y0] h (qI Q) := by
  unfold J_X12_isClause_16 at hV
  refine s_istore_n (lv' := [(2, .inl y0), (0, .inr (.inr x0)), (1, .inl x1)]) d_X12_isClause_16 rfl (Nat.le_of_ble_eq_true rfl) rfl ?_
  refine s_iload_n d_X12_isClause_17 rfl (ma 0 rfl) ?_
  refine s_if_ne (tgt := 27) d_X12_isClause_18 (by decide) (fun c => ?_) (fun c => ?_)
  · have hV := hV.1 c
    refine s_pick (lv' := [(0, .inr (.inr x0)), (2, .inl y0)]) [1, 0] rfl ?_
    exact GJ_X12_isClause_27 _ _ _ _ hV
  · have hV := hV.2 c
    refine s_iload_n d_X12_isClause_21 rfl (ma 2 rfl) ?_
    refine s_bipush d_X12_isClause_22 (by decide) (okn rfl) ?_
    refine s_icmp_ne (tgt := 38) d_X12_isClause_24 (by decide) (fun c => ?_) (fun c => ?_)
    · have hV := hV.1 c
      refine s_pick (lv' := [(0, .inr (.inr x0))]) [1] rfl ?_
      exact GJ_X12_isClause_38 _ _ _ hV
    · have hV := hV.2 c
      refine s_pick (lv' := [(0, .inr (.inr x0)), (2, .inl y0)]) [1, 0] rfl ?_
      exact GJ_X12_isClause_27 _ _ _ _ hV
def V_X12_isClause (x0 : Nat) (h : Hp) (Q : Int → Hp → Prop) : Prop :=
  hK h x0 = 11 ∧ C_X12_peek x0  h (fun r2 h1 => ((r2 ≠ 114 → (J_X12_isClause_16 x0 r2 0 h1 Q)) ∧ (r2 = 114 → (J_X12_isClause_16 x0 r2 1 h1 Q))))
theorem G_X12_isClause {x0 : Nat} (h : Hp) (Q : Int → Hp → Prop) (hV : V_X12_isClause x0 h Q) : C_X12_isClause x0 h Q := by
  unfold V_X12_isClause at hV
  show Go i_X12_isClause 0 [(0, .inr (.inr x0))] [] h (qI Q)
  refine s_aload_n d_X12_isClause_0 rfl (ma 0 rfl) ?_
  obtain ⟨o, hV⟩ := hV
  refine v_RX12_105 rfl (Nat.le_of_ble_eq_true rfl) d_X12_isClause_1 o (Nat.le_of_ble_eq_true rfl) hV (fun r2 h1 hV => ?_)
  refine s_istore_n (lv' := [(1, .inl r2), (0, .inr (.inr x0))]) d_X12_isClause_4 rfl (Nat.le_of_ble_eq_true rfl) rfl ?_
  refine s_iload_n d_X12_isClause_5 rfl (ma 0 rfl) ?_
  refine s_bipush d_X12_isClause_6 (by decide) (okn rfl) ?_
  refine s_icmp_ne (tgt := 15) d_X12_isClause_8 (by decide) (fun c => ?_) (fun c => ?_)
  · have hV := hV.1 c
    refine s_iconst d_X12_isClause_15 (okn rfl) ?_
    refine s_pick (lv' := [(0, .inr (.inr x0)), (1, .inl r2)]) [1, 0] rfl ?_
    exact GJ_X12_isClause_16 _ _ _ _ _ hV
  · have hV := hV.2 c
    refine s_iconst d_X12_isClause_11 (okn rfl) ?_
    refine s_goto (tgt := 16) d_X12_isClause_12 (by decide) ?_
    refine s_pick (lv' := [(0, .inr (.inr x0)), (1, .inl r2)]) [1, 0] rfl ?_
    exact GJ_X12_isClause_16 _ _ _ _ _ hV

theorem d_X12_isRead_0 : decode i_X12_isRead.2.1 0 = .ok (.aload_n 0, 1) := by decide +kernel
theorem d_X12_isRead_1 : decode i_X12_isRead.2.1 1 = .ok (.iconst 0, 1) := by decide +kernel
theorem d_X12_isRead_2 : decode i_X12_isRead.2.1 2 = .ok (.putfield 99, 3) := by decide +kernel
theorem d_X12_isRead_5 : decode i_X12_isRead.2.1 5 = .ok (.aload_n 0, 1) := by decide +kernel
theorem d_X12_isRead_6 : decode i_X12_isRead.2.1 6 = .ok (.iconst 0, 1) := by decide +kernel
theorem d_X12_isRead_7 : decode i_X12_isRead.2.1 7 = .ok (.putfield 102, 3) := by decide +kernel
theorem d_X12_isRead_10 : decode i_X12_isRead.2.1 10 = .ok (.aload_n 0, 1) := by decide +kernel
theorem d_X12_isRead_11 : decode i_X12_isRead.2.1 11 = .ok (.iconst 0, 1) := by decide +kernel
theorem d_X12_isRead_12 : decode i_X12_isRead.2.1 12 = .ok (.putfield 116, 3) := by decide +kernel
theorem d_X12_isRead_15 : decode i_X12_isRead.2.1 15 = .ok (.aload_n 0, 1) := by decide +kernel
theorem d_X12_isRead_16 : decode i_X12_isRead.2.1 16 = .ok (.iconst 0, 1) := by decide +kernel
theorem d_X12_isRead_17 : decode i_X12_isRead.2.1 17 = .ok (.putfield 119, 3) := by decide +kernel
theorem d_X12_isRead_20 : decode i_X12_isRead.2.1 20 = .ok (.iconst 1, 1) := by decide +kernel
theorem d_X12_isRead_21 : decode i_X12_isRead.2.1 21 = .ok (.istore_n 1, 1) := by decide +kernel
theorem d_X12_isRead_22 : decode i_X12_isRead.2.1 22 = .ok (.iload_n 1, 1) := by decide +kernel
theorem d_X12_isRead_23 : decode i_X12_isRead.2.1 23 = .ok (.ifCond .eq 18, 3) := by decide +kernel
theorem d_X12_isRead_26 : decode i_X12_isRead.2.1 26 = .ok (.aload_n 0, 1) := by decide +kernel
theorem d_X12_isRead_27 : decode i_X12_isRead.2.1 27 = .ok (.invokevirtual 105, 3) := by decide +kernel
theorem d_X12_isRead_30 : decode i_X12_isRead.2.1 30 = .ok (.ifCond .lt 11, 3) := by decide +kernel
theorem d_X12_isRead_33 : decode i_X12_isRead.2.1 33 = .ok (.aload_n 0, 1) := by decide +kernel
theorem d_X12_isRead_34 : decode i_X12_isRead.2.1 34 = .ok (.invokevirtual 126, 3) := by decide +kernel
theorem d_X12_isRead_37 : decode i_X12_isRead.2.1 37 = .ok (.istore_n 1, 1) := by decide +kernel
theorem d_X12_isRead_38 : decode i_X12_isRead.2.1 38 = .ok (.goto (-16), 3) := by decide +kernel
theorem d_X12_isRead_41 : decode i_X12_isRead.2.1 41 = .ok (.iload_n 1, 1) := by decide +kernel
theorem d_X12_isRead_42 : decode i_X12_isRead.2.1 42 = .ok (.ireturn, 1) := by decide +kernel
def BLp_X12_isRead_22 (x0 : Nat) (P22 : Int → Hp → Prop) (x1 : Int) (h : Hp) (Q : Int → Hp → Prop) : Prop :=
  (x1 = 0 → (((x1 : Int) = 0 ∨ (x1 : Int) = 1) ∧ Q x1 h)) ∧ (¬ x1 = 0 → (hK h x0 = 11 ∧ C_X12_peek x0  h (fun r2 h1 => ((r2 < 0 → (((x1 : Int) = 0 ∨ (x1 : Int) = 1) ∧ Q x1 h1)) ∧ (¬ r2 < 0 → (hK h1 x0 = 11 ∧ C_X12_isClause x0  h1 (fun r4 h3 => (P22 r4 h3))))))))
def Lp_X12_isRead_22 (x0 : Nat) (x1 : Int) (h : Hp) (Q : Int → Hp → Prop) : Prop := ∀ P22 : Int → Hp → Prop, (∀ (x1 : Int) (h : Hp), BLp_X12_isRead_22 x0 P22 x1 h Q → P22 x1 h) → P22 x1 h
theorem Lp_X12_isRead_22_ind {x0 : Nat} {Q : Int → Hp → Prop} (I : Int → Hp → Prop) (μ : Int → Hp → Nat) (hs : ∀ (P22 : Int → Hp → Prop) (x1 : Int) (h : Hp), I x1 h → (∀ (x1' : Int) (h' : Hp), I x1' h' → μ x1' h' < μ x1 h → P22 x1' h') → BLp_X12_isRead_22 x0 P22 x1 h Q) : ∀ (x1 : Int) (h : Hp), I x1 h → Lp_X12_isRead_22 x0 x1 h Q := by
  intro x1 h hI P22 hP
  have key : ∀ (n : Nat) (x1 : Int) (h : Hp), I x1 h → μ x1 h < n → P22 x1 h := by
    intro n
    induction n with
    | zero => intro x1 h _ hl; exact absurd hl (Nat.not_lt_zero _)
    | succ n ih => intro x1 h hi hl; exact hP x1 h (hs P22 x1 h hi (fun x1 h' hi' hl' => ih x1 h' hi' (by omega)))
  exact key _ x1 h hI (Nat.lt_succ_self _)
theorem GLp_X12_isRead_22 (x0 : Nat) (x1 : Int) (h : Hp) (Q : Int → Hp → Prop) (hV : Lp_X12_isRead_22 x0 x1 h Q) : Go i_X12_isRead 22 [(0, .inr (.inr x0)), (1, .inl x1)] [] h (qI Q) := by
  refine hV (fun x1 h => Go i_X12_isRead 22 [(0, .inr (.inr x0)), (1, .inl x1)] [] h (qI Q)) (fun x1 h hV => ?_)
  unfold BLp_X12_isRead_22 at hV
  have hP22 : ∀ (x1 : Int) (h : Hp), Go i_X12_isRead 22 [(0, .inr (.inr x0)), (1, .inl x1)] [] h (qI Q) → Go i_X12_isRead 22 [(0, .inr (.inr x0)), (1, .inl x1)] [] h (qI Q) := fun _ h z => z
  refine s_iload_n d_X12_isRead_22 rfl (ma 1 rfl) ?_
  refine s_if_eq (tgt := 41) d_X12_isRead_23 (by decide) (fun c => ?_) (fun c => ?_)
  · have hV := hV.1 c
    refine s_iload_n d_X12_isRead_41 rfl (ma 1 rfl) ?_
    exact s_iret d_X12_isRead_42 rfl (nar_z hV.1) ⟨_, rfl, hV.2⟩
  · have hV := hV.2 c
    refine s_aload_n d_X12_isRead_26 rfl (ma 0 rfl) ?_
    obtain ⟨o, hV⟩ := hV
    refine v_RX12_105 rfl (Nat.le_of_ble_eq_true rfl) d_X12_isRead_27 o (Nat.le_of_ble_eq_true rfl) hV (fun r2 h1 hV => ?_)
    refine s_if_lt (tgt := 41) d_X12_isRead_30 (by decide) (fun c => ?_) (fun c => ?_)
    · have hV := hV.1 c
      refine s_iload_n d_X12_isRead_41 rfl (ma 1 rfl) ?_
      exact s_iret d_X12_isRead_42 rfl (nar_z hV.1) ⟨_, rfl, hV.2⟩
    · have hV := hV.2 c
      refine s_aload_n d_X12_isRead_33 rfl (ma 0 rfl) ?_
      obtain ⟨o, hV⟩ := hV
      refine v_RX12_126 rfl (Nat.le_of_ble_eq_true rfl) d_X12_isRead_34 o (Nat.le_of_ble_eq_true rfl) hV (fun r4 h3 hV => ?_)
      refine s_istore_n (lv' := [(1, .inl r4), (0, .inr (.inr x0))]) d_X12_isRead_37 rfl (Nat.le_of_ble_eq_true rfl) rfl ?_
      refine s_goto (tgt := 22) d_X12_isRead_38 (by decide) ?_
      refine s_pick (lv' := [(0, .inr (.inr x0)), (1, .inl r4)]) [1, 0] rfl ?_
      exact hP22 _ _ hV
def V_X12_isRead (x0 : Nat) (h : Hp) (Q : Int → Hp → Prop) : Prop :=
  hK h x0 = 11 ∧ ∀ h1 : Hp, h1 = wI h x0 2 0 → (hK h1 x0 = 11 ∧ ∀ h2 : Hp, h2 = wI h1 x0 4 0 → (hK h2 x0 = 11 ∧ ∀ h3 : Hp, h3 = wI h2 x0 5 0 → (hK h3 x0 = 11 ∧ ∀ h4 : Hp, h4 = wI h3 x0 6 0 → (Lp_X12_isRead_22 x0 1 h4 Q))))
theorem G_X12_isRead {x0 : Nat} (h : Hp) (Q : Int → Hp → Prop) (hV : V_X12_isRead x0 h Q) : C_X12_isRead x0 h Q := by
  unfold V_X12_isRead at hV
  show Go i_X12_isRead 0 [(0, .inr (.inr x0))] [] h (qI Q)
  refine s_aload_n d_X12_isRead_0 rfl (ma 0 rfl) ?_
  refine s_iconst d_X12_isRead_1 (okn rfl) ?_
  obtain ⟨o, hV⟩ := hV
  refine f_RX12_99p rfl d_X12_isRead_2 o (fun h1 eh1 => ?_)
  have hV := hV h1 eh1
  refine s_aload_n d_X12_isRead_5 rfl (ma 0 rfl) ?_
  refine s_iconst d_X12_isRead_6 (okn rfl) ?_
  obtain ⟨o, hV⟩ := hV
  refine f_RX12_102p rfl d_X12_isRead_7 o (fun h2 eh2 => ?_)
  have hV := hV h2 eh2
  refine s_aload_n d_X12_isRead_10 rfl (ma 0 rfl) ?_
  refine s_iconst d_X12_isRead_11 (okn rfl) ?_
  obtain ⟨o, hV⟩ := hV
  refine f_RX12_116p rfl d_X12_isRead_12 o (fun h3 eh3 => ?_)
  have hV := hV h3 eh3
  refine s_aload_n d_X12_isRead_15 rfl (ma 0 rfl) ?_
  refine s_iconst d_X12_isRead_16 (okn rfl) ?_
  obtain ⟨o, hV⟩ := hV
  refine f_RX12_119p rfl d_X12_isRead_17 o (fun h4 eh4 => ?_)
  have hV := hV h4 eh4
  refine s_iconst d_X12_isRead_20 (okn rfl) ?_
  refine s_istore_n (lv' := [(1, .inl 1), (0, .inr (.inr x0))]) d_X12_isRead_21 rfl (Nat.le_of_ble_eq_true rfl) rfl ?_
  refine s_pick (lv' := [(0, .inr (.inr x0)), (1, .inl 1)]) [1, 0] rfl ?_
  exact GLp_X12_isRead_22 _ _ _ _ hV

theorem d_X12_desk_0 : decode i_X12_desk.2.1 0 = .ok (.aload_n 0, 1) := by decide +kernel
theorem d_X12_desk_1 : decode i_X12_desk.2.1 1 = .ok (.invokevirtual 130, 3) := by decide +kernel
theorem d_X12_desk_4 : decode i_X12_desk.2.1 4 = .ok (.istore_n 1, 1) := by decide +kernel
theorem d_X12_desk_5 : decode i_X12_desk.2.1 5 = .ok (.aload_n 0, 1) := by decide +kernel
theorem d_X12_desk_6 : decode i_X12_desk.2.1 6 = .ok (.iconst 0, 1) := by decide +kernel
theorem d_X12_desk_7 : decode i_X12_desk.2.1 7 = .ok (.putfield 95, 3) := by decide +kernel
theorem d_X12_desk_10 : decode i_X12_desk.2.1 10 = .ok (.aload_n 0, 1) := by decide +kernel
theorem d_X12_desk_11 : decode i_X12_desk.2.1 11 = .ok (.iload_n 1, 1) := by decide +kernel
theorem d_X12_desk_12 : decode i_X12_desk.2.1 12 = .ok (.ifCond .eq 7, 3) := by decide +kernel
theorem d_X12_desk_15 : decode i_X12_desk.2.1 15 = .ok (.iconst (-1), 1) := by decide +kernel
theorem d_X12_desk_16 : decode i_X12_desk.2.1 16 = .ok (.goto 7, 3) := by decide +kernel
theorem d_X12_desk_19 : decode i_X12_desk.2.1 19 = .ok (.aload_n 0, 1) := by decide +kernel
theorem d_X12_desk_20 : decode i_X12_desk.2.1 20 = .ok (.getfield 99, 3) := by decide +kernel
theorem d_X12_desk_23 : decode i_X12_desk.2.1 23 = .ok (.putfield 13, 3) := by decide +kernel
theorem d_X12_desk_26 : decode i_X12_desk.2.1 26 = .ok (.iload_n 1, 1) := by decide +kernel
theorem d_X12_desk_27 : decode i_X12_desk.2.1 27 = .ok (.ifCond .ne 11, 3) := by decide +kernel
theorem d_X12_desk_30 : decode i_X12_desk.2.1 30 = .ok (.bipush (-10), 2) := by decide +kernel
theorem d_X12_desk_32 : decode i_X12_desk.2.1 32 = .ok (.aload_n 0, 1) := by decide +kernel
theorem d_X12_desk_33 : decode i_X12_desk.2.1 33 = .ok (.getfield 102, 3) := by decide +kernel
theorem d_X12_desk_36 : decode i_X12_desk.2.1 36 = .ok (.isub, 1) := by decide +kernel
theorem d_X12_desk_37 : decode i_X12_desk.2.1 37 = .ok (.ireturn, 1) := by decide +kernel
theorem d_X12_desk_38 : decode i_X12_desk.2.1 38 = .ok (.aload_n 0, 1) := by decide +kernel
theorem d_X12_desk_39 : decode i_X12_desk.2.1 39 = .ok (.aload_n 0, 1) := by decide +kernel
theorem d_X12_desk_40 : decode i_X12_desk.2.1 40 = .ok (.getfield 116, 3) := by decide +kernel
theorem d_X12_desk_43 : decode i_X12_desk.2.1 43 = .ok (.ifCond .le 7, 3) := by decide +kernel
theorem d_X12_desk_46 : decode i_X12_desk.2.1 46 = .ok (.iconst 1, 1) := by decide +kernel
theorem d_X12_desk_47 : decode i_X12_desk.2.1 47 = .ok (.goto 4, 3) := by decide +kernel
theorem d_X12_desk_50 : decode i_X12_desk.2.1 50 = .ok (.iconst 0, 1) := by decide +kernel
theorem d_X12_desk_51 : decode i_X12_desk.2.1 51 = .ok (.putfield 133, 3) := by decide +kernel
theorem d_X12_desk_54 : decode i_X12_desk.2.1 54 = .ok (.iconst 0, 1) := by decide +kernel
theorem d_X12_desk_55 : decode i_X12_desk.2.1 55 = .ok (.istore_n 2, 1) := by decide +kernel
theorem d_X12_desk_56 : decode i_X12_desk.2.1 56 = .ok (.iload_n 2, 1) := by decide +kernel
theorem d_X12_desk_57 : decode i_X12_desk.2.1 57 = .ok (.bipush 103, 2) := by decide +kernel
theorem d_X12_desk_59 : decode i_X12_desk.2.1 59 = .ok (.if_icmp .ge 16, 3) := by decide +kernel
theorem d_X12_desk_62 : decode i_X12_desk.2.1 62 = .ok (.aload_n 0, 1) := by decide +kernel
theorem d_X12_desk_63 : decode i_X12_desk.2.1 63 = .ok (.getfield 32, 3) := by decide +kernel
theorem d_X12_desk_66 : decode i_X12_desk.2.1 66 = .ok (.iload_n 2, 1) := by decide +kernel
theorem d_X12_desk_67 : decode i_X12_desk.2.1 67 = .ok (.iconst 0, 1) := by decide +kernel
theorem d_X12_desk_68 : decode i_X12_desk.2.1 68 = .ok (.iastore, 1) := by decide +kernel
theorem d_X12_desk_69 : decode i_X12_desk.2.1 69 = .ok (.iinc 2 1, 3) := by decide +kernel
theorem d_X12_desk_72 : decode i_X12_desk.2.1 72 = .ok (.goto (-16), 3) := by decide +kernel
theorem d_X12_desk_75 : decode i_X12_desk.2.1 75 = .ok (.aload_n 0, 1) := by decide +kernel
theorem d_X12_desk_76 : decode i_X12_desk.2.1 76 = .ok (.getfield 32, 3) := by decide +kernel
theorem d_X12_desk_79 : decode i_X12_desk.2.1 79 = .ok (.iconst 0, 1) := by decide +kernel
theorem d_X12_desk_80 : decode i_X12_desk.2.1 80 = .ok (.aload_n 0, 1) := by decide +kernel
theorem d_X12_desk_81 : decode i_X12_desk.2.1 81 = .ok (.getfield 116, 3) := by decide +kernel
theorem d_X12_desk_84 : decode i_X12_desk.2.1 84 = .ok (.iastore, 1) := by decide +kernel
theorem d_X12_desk_85 : decode i_X12_desk.2.1 85 = .ok (.aload_n 0, 1) := by decide +kernel
theorem d_X12_desk_86 : decode i_X12_desk.2.1 86 = .ok (.getfield 17, 3) := by decide +kernel
theorem d_X12_desk_89 : decode i_X12_desk.2.1 89 = .ok (.iconst 0, 1) := by decide +kernel
theorem d_X12_desk_90 : decode i_X12_desk.2.1 90 = .ok (.aload_n 0, 1) := by decide +kernel
theorem d_X12_desk_91 : decode i_X12_desk.2.1 91 = .ok (.getfield 32, 3) := by decide +kernel
theorem d_X12_desk_94 : decode i_X12_desk.2.1 94 = .ok (.iconst 3, 1) := by decide +kernel
theorem d_X12_desk_95 : decode i_X12_desk.2.1 95 = .ok (.aload_n 0, 1) := by decide +kernel
theorem d_X12_desk_96 : decode i_X12_desk.2.1 96 = .ok (.getfield 116, 3) := by decide +kernel
theorem d_X12_desk_99 : decode i_X12_desk.2.1 99 = .ok (.invokestatic 136, 3) := by decide +kernel
theorem d_X12_desk_102 : decode i_X12_desk.2.1 102 = .ok (.aload_n 0, 1) := by decide +kernel
theorem d_X12_desk_103 : decode i_X12_desk.2.1 103 = .ok (.aload_n 0, 1) := by decide +kernel
theorem d_X12_desk_104 : decode i_X12_desk.2.1 104 = .ok (.getfield 119, 3) := by decide +kernel
theorem d_X12_desk_107 : decode i_X12_desk.2.1 107 = .ok (.putfield 140, 3) := by decide +kernel
theorem d_X12_desk_110 : decode i_X12_desk.2.1 110 = .ok (.aload_n 0, 1) := by decide +kernel
theorem d_X12_desk_111 : decode i_X12_desk.2.1 111 = .ok (.getfield 20, 3) := by decide +kernel
theorem d_X12_desk_114 : decode i_X12_desk.2.1 114 = .ok (.iconst 0, 1) := by decide +kernel
theorem d_X12_desk_115 : decode i_X12_desk.2.1 115 = .ok (.aload_n 0, 1) := by decide +kernel
theorem d_X12_desk_116 : decode i_X12_desk.2.1 116 = .ok (.getfield 26, 3) := by decide +kernel
theorem d_X12_desk_119 : decode i_X12_desk.2.1 119 = .ok (.iconst 0, 1) := by decide +kernel
theorem d_X12_desk_120 : decode i_X12_desk.2.1 120 = .ok (.bipush 6, 2) := by decide +kernel
theorem d_X12_desk_122 : decode i_X12_desk.2.1 122 = .ok (.invokestatic 136, 3) := by decide +kernel
theorem d_X12_desk_125 : decode i_X12_desk.2.1 125 = .ok (.aload_n 0, 1) := by decide +kernel
theorem d_X12_desk_126 : decode i_X12_desk.2.1 126 = .ok (.getfield 23, 3) := by decide +kernel
theorem d_X12_desk_129 : decode i_X12_desk.2.1 129 = .ok (.iconst 0, 1) := by decide +kernel
theorem d_X12_desk_130 : decode i_X12_desk.2.1 130 = .ok (.aload_n 0, 1) := by decide +kernel
theorem d_X12_desk_131 : decode i_X12_desk.2.1 131 = .ok (.getfield 29, 3) := by decide +kernel
theorem d_X12_desk_134 : decode i_X12_desk.2.1 134 = .ok (.iconst 0, 1) := by decide +kernel
theorem d_X12_desk_135 : decode i_X12_desk.2.1 135 = .ok (.bipush 48, 2) := by decide +kernel
theorem d_X12_desk_137 : decode i_X12_desk.2.1 137 = .ok (.invokestatic 136, 3) := by decide +kernel
theorem d_X12_desk_140 : decode i_X12_desk.2.1 140 = .ok (.aload_n 0, 1) := by decide +kernel
theorem d_X12_desk_141 : decode i_X12_desk.2.1 141 = .ok (.iconst 0, 1) := by decide +kernel
theorem d_X12_desk_142 : decode i_X12_desk.2.1 142 = .ok (.putfield 143, 3) := by decide +kernel
theorem d_X12_desk_145 : decode i_X12_desk.2.1 145 = .ok (.aload_n 0, 1) := by decide +kernel
theorem d_X12_desk_146 : decode i_X12_desk.2.1 146 = .ok (.getfield 44, 3) := by decide +kernel
theorem d_X12_desk_149 : decode i_X12_desk.2.1 149 = .ok (.iconst 0, 1) := by decide +kernel
theorem d_X12_desk_150 : decode i_X12_desk.2.1 150 = .ok (.iconst 0, 1) := by decide +kernel
theorem d_X12_desk_151 : decode i_X12_desk.2.1 151 = .ok (.bastore, 1) := by decide +kernel
theorem d_X12_desk_152 : decode i_X12_desk.2.1 152 = .ok (.aload_n 0, 1) := by decide +kernel
theorem d_X12_desk_153 : decode i_X12_desk.2.1 153 = .ok (.getfield 44, 3) := by decide +kernel
theorem d_X12_desk_156 : decode i_X12_desk.2.1 156 = .ok (.iconst 1, 1) := by decide +kernel
theorem d_X12_desk_157 : decode i_X12_desk.2.1 157 = .ok (.iconst 0, 1) := by decide +kernel
theorem d_X12_desk_158 : decode i_X12_desk.2.1 158 = .ok (.bastore, 1) := by decide +kernel
theorem d_X12_desk_159 : decode i_X12_desk.2.1 159 = .ok (.aload_n 0, 1) := by decide +kernel
theorem d_X12_desk_160 : decode i_X12_desk.2.1 160 = .ok (.iconst 0, 1) := by decide +kernel
theorem d_X12_desk_161 : decode i_X12_desk.2.1 161 = .ok (.putfield 146, 3) := by decide +kernel
theorem d_X12_desk_164 : decode i_X12_desk.2.1 164 = .ok (.aload_n 0, 1) := by decide +kernel
theorem d_X12_desk_165 : decode i_X12_desk.2.1 165 = .ok (.iconst 0, 1) := by decide +kernel
theorem d_X12_desk_166 : decode i_X12_desk.2.1 166 = .ok (.putfield 149, 3) := by decide +kernel
theorem d_X12_desk_169 : decode i_X12_desk.2.1 169 = .ok (.aload_n 0, 1) := by decide +kernel
theorem d_X12_desk_170 : decode i_X12_desk.2.1 170 = .ok (.getfield 116, 3) := by decide +kernel
theorem d_X12_desk_173 : decode i_X12_desk.2.1 173 = .ok (.ireturn, 1) := by decide +kernel
def BLp_X12_desk_56 (x0 : Nat) (P56 : Int → Hp → Prop) (x2 : Int) (h : Hp) (Q : Int → Hp → Prop) : Prop :=
  (103 ≤ x2 → (hK h x0 = 11 ∧ (hK h x0 = 11 ∧ ((hK h (hR h x0 14) = 12 ∧ (0 : Int) ≤ 0 ∧ 0 < hL h (hR h x0 14)) ∧ ∀ h1 : Hp, h1 = wI h (hR h x0 14) 0 (hI h x0 5) → (hK h1 x0 = 11 ∧ (hK h1 x0 = 11 ∧ (hK h1 x0 = 11 ∧ (C_X12_bring (hR h1 x0 7) 0 (hR h1 x0 14) 3 (hI h1 x0 5) h1 (fun h2 => (hK h2 x0 = 11 ∧ (hK h2 x0 = 11 ∧ ∀ h3 : Hp, h3 = wI h2 x0 11 (hI h2 x0 6) → (hK h3 x0 = 11 ∧ (hK h3 x0 = 11 ∧ (C_X12_bring (hR h3 x0 8) 0 (hR h3 x0 12) 0 6 h3 (fun h4 => (hK h4 x0 = 11 ∧ (hK h4 x0 = 11 ∧ (C_X12_bring (hR h4 x0 9) 0 (hR h4 x0 13) 0 48 h4 (fun h5 => (hK h5 x0 = 11 ∧ ∀ h6 : Hp, h6 = wI h5 x0 16 0 → (hK h6 x0 = 11 ∧ ((hK h6 (hR h6 x0 19) = 15 ∧ (0 : Int) ≤ 0 ∧ 0 < hL h6 (hR h6 x0 19) ∧ ((0 : Int) = 0 ∨ (0 : Int) = 1)) ∧ ∀ h7 : Hp, h7 = wI h6 (hR h6 x0 19) 0 0 → (hK h7 x0 = 11 ∧ ((hK h7 (hR h7 x0 19) = 15 ∧ (0 : Int) ≤ 1 ∧ 1 < hL h7 (hR h7 x0 19) ∧ ((0 : Int) = 0 ∨ (0 : Int) = 1)) ∧ ∀ h8 : Hp, h8 = wI h7 (hR h7 x0 19) 1 0 → (hK h8 x0 = 11 ∧ ∀ h9 : Hp, h9 = wI h8 x0 21 0 → (hK h9 x0 = 11 ∧ ∀ h10 : Hp, h10 = wI h9 x0 25 0 → (hK h10 x0 = 11 ∧ (Q (hI h10 x0 5) h10)))))))))))))))))))))))))))) ∧ (¬ 103 ≤ x2 → (hK h x0 = 11 ∧ ((hK h (hR h x0 14) = 12 ∧ (0 : Int) ≤ x2 ∧ x2 < hL h (hR h x0 14)) ∧ ∀ h11 : Hp, h11 = wI h (hR h x0 14) x2 0 → (((-2147483648 : Int) ≤ x2 + 1 ∧ x2 + 1 ≤ (2147483647 : Int)) ∧ (P56 (x2 + 1) h11)))))
def Lp_X12_desk_56 (x0 : Nat) (x2 : Int) (h : Hp) (Q : Int → Hp → Prop) : Prop := ∀ P56 : Int → Hp → Prop, (∀ (x2 : Int) (h : Hp), BLp_X12_desk_56 x0 P56 x2 h Q → P56 x2 h) → P56 x2 h
theorem Lp_X12_desk_56_ind {x0 : Nat} {Q : Int → Hp → Prop} (I : Int → Hp → Prop) (μ : Int → Hp → Nat) (hs : ∀ (P56 : Int → Hp → Prop) (x2 : Int) (h : Hp), I x2 h → (∀ (x2' : Int) (h' : Hp), I x2' h' → μ x2' h' < μ x2 h → P56 x2' h') → BLp_X12_desk_56 x0 P56 x2 h Q) : ∀ (x2 : Int) (h : Hp), I x2 h → Lp_X12_desk_56 x0 x2 h Q := by
  intro x2 h hI P56 hP
  have key : ∀ (n : Nat) (x2 : Int) (h : Hp), I x2 h → μ x2 h < n → P56 x2 h := by
    intro n
    induction n with
    | zero => intro x2 h _ hl; exact absurd hl (Nat.not_lt_zero _)
    | succ n ih => intro x2 h hi hl; exact hP x2 h (hs P56 x2 h hi (fun x2 h' hi' hl' => ih x2 h' hi' (by omega)))
  exact key _ x2 h hI (Nat.lt_succ_self _)
theorem GLp_X12_desk_56 (x0 : Nat) (x2 : Int) (h : Hp) (Q : Int → Hp → Prop) (hV : Lp_X12_desk_56 x0 x2 h Q) : Go i_X12_desk 56 [(0, .inr (.inr x0)), (2, .inl x2)] [] h (qI Q) := by
  refine hV (fun x2 h => Go i_X12_desk 56 [(0, .inr (.inr x0)), (2, .inl x2)] [] h (qI Q)) (fun x2 h hV => ?_)
  unfold BLp_X12_desk_56 at hV
  have hP56 : ∀ (x2 : Int) (h : Hp), Go i_X12_desk 56 [(0, .inr (.inr x0)), (2, .inl x2)] [] h (qI Q) → Go i_X12_desk 56 [(0, .inr (.inr x0)), (2, .inl x2)] [] h (qI Q) := fun _ h z => z
  refine s_iload_n d_X12_desk_56 rfl (ma 1 rfl) ?_
  refine s_bipush d_X12_desk_57 (by decide) (okn rfl) ?_
  refine s_icmp_ge (tgt := 75) d_X12_desk_59 (by decide) (fun c => ?_) (fun c => ?_)
  · have hV := hV.1 c
    refine s_aload_n d_X12_desk_75 rfl (ma 0 rfl) ?_
    obtain ⟨o, hV⟩ := hV
    refine f_RX12_32g rfl d_X12_desk_76 o ?_
    refine s_iconst d_X12_desk_79 (okn rfl) ?_
    refine s_aload_n d_X12_desk_80 rfl (ma 0 rfl) ?_
    obtain ⟨o, hV⟩ := hV
    refine f_RX12_116g rfl d_X12_desk_81 o ?_
    obtain ⟨o, hV⟩ := hV
    refine s_iast d_X12_desk_84 o.1 o.2.1 o.2.2 ?_
    refine s_nmH (fun h1 eh1 => ?_)
    have hV := hV h1 eh1
    refine s_aload_n d_X12_desk_85 rfl (ma 0 rfl) ?_
    obtain ⟨o, hV⟩ := hV
    refine f_RX12_17g rfl d_X12_desk_86 o ?_
    refine s_iconst d_X12_desk_89 (okn rfl) ?_
    refine s_aload_n d_X12_desk_90 rfl (ma 0 rfl) ?_
    obtain ⟨o, hV⟩ := hV
    refine f_RX12_32g rfl d_X12_desk_91 o ?_
    refine s_iconst d_X12_desk_94 (okn rfl) ?_
    refine s_aload_n d_X12_desk_95 rfl (ma 0 rfl) ?_
    obtain ⟨o, hV⟩ := hV
    refine f_RX12_116g rfl d_X12_desk_96 o ?_
    refine v_RX12_136 rfl (Nat.le_of_ble_eq_true rfl) d_X12_desk_99 (Nat.le_of_ble_eq_true rfl) hV (fun h2 hV => ?_)
    refine s_aload_n d_X12_desk_102 rfl (ma 0 rfl) ?_
    refine s_aload_n d_X12_desk_103 rfl (ma 0 rfl) ?_
    obtain ⟨o, hV⟩ := hV
    refine f_RX12_119g rfl d_X12_desk_104 o ?_
    obtain ⟨o, hV⟩ := hV
    refine f_RX12_140p rfl d_X12_desk_107 o (fun h3 eh3 => ?_)
    have hV := hV h3 eh3
    refine s_aload_n d_X12_desk_110 rfl (ma 0 rfl) ?_
    obtain ⟨o, hV⟩ := hV
    refine f_RX12_20g rfl d_X12_desk_111 o ?_
    refine s_iconst d_X12_desk_114 (okn rfl) ?_
    refine s_aload_n d_X12_desk_115 rfl (ma 0 rfl) ?_
    obtain ⟨o, hV⟩ := hV
    refine f_RX12_26g rfl d_X12_desk_116 o ?_
    refine s_iconst d_X12_desk_119 (okn rfl) ?_
    refine s_bipush d_X12_desk_120 (by decide) (okn rfl) ?_
    refine v_RX12_136 rfl (Nat.le_of_ble_eq_true rfl) d_X12_desk_122 (Nat.le_of_ble_eq_true rfl) hV (fun h4 hV => ?_)
    refine s_aload_n d_X12_desk_125 rfl (ma 0 rfl) ?_
    obtain ⟨o, hV⟩ := hV
    refine f_RX12_23g rfl d_X12_desk_126 o ?_
    refine s_iconst d_X12_desk_129 (okn rfl) ?_
    refine s_aload_n d_X12_desk_130 rfl (ma 0 rfl) ?_
    obtain ⟨o, hV⟩ := hV
    refine f_RX12_29g rfl d_X12_desk_131 o ?_
    refine s_iconst d_X12_desk_134 (okn rfl) ?_
    refine s_bipush d_X12_desk_135 (by decide) (okn rfl) ?_
    refine v_RX12_136 rfl (Nat.le_of_ble_eq_true rfl) d_X12_desk_137 (Nat.le_of_ble_eq_true rfl) hV (fun h5 hV => ?_)
    refine s_aload_n d_X12_desk_140 rfl (ma 0 rfl) ?_
    refine s_iconst d_X12_desk_141 (okn rfl) ?_
    obtain ⟨o, hV⟩ := hV
    refine f_RX12_143p rfl d_X12_desk_142 o (fun h6 eh6 => ?_)
    have hV := hV h6 eh6
    refine s_aload_n d_X12_desk_145 rfl (ma 0 rfl) ?_
    obtain ⟨o, hV⟩ := hV
    refine f_RX12_44g rfl d_X12_desk_146 o ?_
    refine s_iconst d_X12_desk_149 (okn rfl) ?_
    refine s_iconst d_X12_desk_150 (okn rfl) ?_
    obtain ⟨o, hV⟩ := hV
    refine s_zast d_X12_desk_151 o.1 o.2.1 o.2.2.1 o.2.2.2 ?_
    refine s_nmH (fun h7 eh7 => ?_)
    have hV := hV h7 eh7
    refine s_aload_n d_X12_desk_152 rfl (ma 0 rfl) ?_
    obtain ⟨o, hV⟩ := hV
    refine f_RX12_44g rfl d_X12_desk_153 o ?_
    refine s_iconst d_X12_desk_156 (okn rfl) ?_
    refine s_iconst d_X12_desk_157 (okn rfl) ?_
    obtain ⟨o, hV⟩ := hV
    refine s_zast d_X12_desk_158 o.1 o.2.1 o.2.2.1 o.2.2.2 ?_
    refine s_nmH (fun h8 eh8 => ?_)
    have hV := hV h8 eh8
    refine s_aload_n d_X12_desk_159 rfl (ma 0 rfl) ?_
    refine s_iconst d_X12_desk_160 (okn rfl) ?_
    obtain ⟨o, hV⟩ := hV
    refine f_RX12_146p rfl d_X12_desk_161 o (fun h9 eh9 => ?_)
    have hV := hV h9 eh9
    refine s_aload_n d_X12_desk_164 rfl (ma 0 rfl) ?_
    refine s_iconst d_X12_desk_165 (okn rfl) ?_
    obtain ⟨o, hV⟩ := hV
    refine f_RX12_149p rfl d_X12_desk_166 o (fun h10 eh10 => ?_)
    have hV := hV h10 eh10
    refine s_aload_n d_X12_desk_169 rfl (ma 0 rfl) ?_
    obtain ⟨o, hV⟩ := hV
    refine f_RX12_116g rfl d_X12_desk_170 o ?_
    exact s_iret d_X12_desk_173 rfl rfl ⟨_, rfl, hV⟩
  · have hV := hV.2 c
    refine s_aload_n d_X12_desk_62 rfl (ma 0 rfl) ?_
    obtain ⟨o, hV⟩ := hV
    refine f_RX12_32g rfl d_X12_desk_63 o ?_
    refine s_iload_n d_X12_desk_66 rfl (ma 1 rfl) ?_
    refine s_iconst d_X12_desk_67 (okn rfl) ?_
    obtain ⟨o, hV⟩ := hV
    refine s_iast d_X12_desk_68 o.1 o.2.1 o.2.2 ?_
    refine s_nmH (fun h11 eh11 => ?_)
    have hV := hV h11 eh11
    obtain ⟨o, hV⟩ := hV
    refine s_iinc (lv' := [(2, .inl (x2 + 1)), (0, .inr (.inr x0))]) d_X12_desk_69 (ma 1 rfl) o (Nat.le_of_ble_eq_true rfl) rfl ?_
    refine s_goto (tgt := 56) d_X12_desk_72 (by decide) ?_
    refine s_pick (lv' := [(0, .inr (.inr x0)), (2, .inl (x2 + 1))]) [1, 0] rfl ?_
    exact hP56 _ _ hV
def J_X12_desk_23 (x0 : Nat) (x1 : Int) (y0 : Int) (y1 : Nat) (h : Hp) (Q : Int → Hp → Prop) : Prop :=
  hK h y1 = 11 ∧ ∀ h1 : Hp, h1 = wI h y1 3 y0 → ((x1 ≠ 0 → (hK h1 x0 = 11 ∧ ((hI h1 x0 5 ≤ 0 → (hK h1 x0 = 11 ∧ ∀ h2 : Hp, h2 = wI h1 x0 10 0 → (Lp_X12_desk_56 x0 0 h2 Q))) ∧ (¬ hI h1 x0 5 ≤ 0 → (hK h1 x0 = 11 ∧ ∀ h3 : Hp, h3 = wI h1 x0 10 1 → (Lp_X12_desk_56 x0 0 h3 Q)))))) ∧ (x1 = 0 → (hK h1 x0 = 11 ∧ (((-2147483648 : Int) ≤ (-10) - (hI h1 x0 4) ∧ (-10) - (hI h1 x0 4) ≤ (2147483647 : Int)) ∧ (Q ((-10) - (hI h1 x0 4)) h1)))))
theorem GJ_X12_desk_23 (x0 : Nat) (x1 : Int) (y0 : Int) (y1 : Nat) (h : Hp) (Q : Int → Hp → Prop) (hV : J_X12_desk_23 x0 x1 y0 y1 h Q) : Go i_X12_desk 23 [(0, .inr (.inr x0)), (1, .inl x1)] [.inl y0, .inr (.inr y1)] h (qI Q) := by
  unfold J_X12_desk_23 at hV
  obtain ⟨o, hV⟩ := hV
  refine f_RX12_13p rfl d_X12_desk_23 o (fun h1 eh1 => ?_)
  have hV := hV h1 eh1
  refine s_iload_n d_X12_desk_26 rfl (ma 1 rfl) ?_
  refine s_if_ne (tgt := 38) d_X12_desk_27 (by decide) (fun c => ?_) (fun c => ?_)
  · have hV := hV.1 c
    refine s_aload_n d_X12_desk_38 rfl (ma 0 rfl) ?_
    refine s_aload_n d_X12_desk_39 rfl (ma 0 rfl) ?_
    obtain ⟨o, hV⟩ := hV
    refine f_RX12_116g rfl d_X12_desk_40 o ?_
    refine s_if_le (tgt := 50) d_X12_desk_43 (by decide) (fun c => ?_) (fun c => ?_)
    · have hV := hV.1 c
      refine s_iconst d_X12_desk_50 (okn rfl) ?_
      obtain ⟨o, hV⟩ := hV
      refine f_RX12_133p rfl d_X12_desk_51 o (fun h2 eh2 => ?_)
      have hV := hV h2 eh2
      refine s_iconst d_X12_desk_54 (okn rfl) ?_
      refine s_istore_n (lv' := [(2, .inl 0), (0, .inr (.inr x0)), (1, .inl x1)]) d_X12_desk_55 rfl (Nat.le_of_ble_eq_true rfl) rfl ?_
      refine s_pick (lv' := [(0, .inr (.inr x0)), (2, .inl 0)]) [1, 0] rfl ?_
      exact GLp_X12_desk_56 _ _ _ _ hV
    · have hV := hV.2 c
      refine s_iconst d_X12_desk_46 (okn rfl) ?_
      refine s_goto (tgt := 51) d_X12_desk_47 (by decide) ?_
      obtain ⟨o, hV⟩ := hV
      refine f_RX12_133p rfl d_X12_desk_51 o (fun h3 eh3 => ?_)
      have hV := hV h3 eh3
      refine s_iconst d_X12_desk_54 (okn rfl) ?_
      refine s_istore_n (lv' := [(2, .inl 0), (0, .inr (.inr x0)), (1, .inl x1)]) d_X12_desk_55 rfl (Nat.le_of_ble_eq_true rfl) rfl ?_
      refine s_pick (lv' := [(0, .inr (.inr x0)), (2, .inl 0)]) [1, 0] rfl ?_
      exact GLp_X12_desk_56 _ _ _ _ hV
  · have hV := hV.2 c
    refine s_bipush d_X12_desk_30 (by decide) (okn rfl) ?_
    refine s_aload_n d_X12_desk_32 rfl (ma 0 rfl) ?_
    obtain ⟨o, hV⟩ := hV
    refine f_RX12_102g rfl d_X12_desk_33 o ?_
    obtain ⟨o, hV⟩ := hV
    refine s_isub d_X12_desk_36 o ?_
    exact s_iret d_X12_desk_37 rfl rfl ⟨_, rfl, hV⟩
def V_X12_desk (x0 : Nat) (h : Hp) (Q : Int → Hp → Prop) : Prop :=
  hK h x0 = 11 ∧ C_X12_isRead x0  h (fun r2 h1 => (hK h1 x0 = 11 ∧ ∀ h3 : Hp, h3 = wI h1 x0 0 0 → ((r2 = 0 → (hK h3 x0 = 11 ∧ (J_X12_desk_23 x0 r2 (hI h3 x0 2) x0 h3 Q))) ∧ (¬ r2 = 0 → (J_X12_desk_23 x0 r2 (-1) x0 h3 Q)))))
theorem G_X12_desk {x0 : Nat} (h : Hp) (Q : Int → Hp → Prop) (hV : V_X12_desk x0 h Q) : C_X12_desk x0 h Q := by
  unfold V_X12_desk at hV
  show Go i_X12_desk 0 [(0, .inr (.inr x0))] [] h (qI Q)
  refine s_aload_n d_X12_desk_0 rfl (ma 0 rfl) ?_
  obtain ⟨o, hV⟩ := hV
  refine v_RX12_130 rfl (Nat.le_of_ble_eq_true rfl) d_X12_desk_1 o (Nat.le_of_ble_eq_true rfl) hV (fun r2 h1 hV => ?_)
  refine s_istore_n (lv' := [(1, .inl r2), (0, .inr (.inr x0))]) d_X12_desk_4 rfl (Nat.le_of_ble_eq_true rfl) rfl ?_
  refine s_aload_n d_X12_desk_5 rfl (ma 1 rfl) ?_
  refine s_iconst d_X12_desk_6 (okn rfl) ?_
  obtain ⟨o, hV⟩ := hV
  refine f_RX12_95p rfl d_X12_desk_7 o (fun h3 eh3 => ?_)
  have hV := hV h3 eh3
  refine s_aload_n d_X12_desk_10 rfl (ma 1 rfl) ?_
  refine s_iload_n d_X12_desk_11 rfl (ma 0 rfl) ?_
  refine s_if_eq (tgt := 19) d_X12_desk_12 (by decide) (fun c => ?_) (fun c => ?_)
  · have hV := hV.1 c
    refine s_aload_n d_X12_desk_19 rfl (ma 1 rfl) ?_
    obtain ⟨o, hV⟩ := hV
    refine f_RX12_99g rfl d_X12_desk_20 o ?_
    refine s_pick (lv' := [(0, .inr (.inr x0)), (1, .inl r2)]) [1, 0] rfl ?_
    exact GJ_X12_desk_23 _ _ _ _ _ _ hV
  · have hV := hV.2 c
    refine s_iconst d_X12_desk_15 (okn rfl) ?_
    refine s_goto (tgt := 23) d_X12_desk_16 (by decide) ?_
    refine s_pick (lv' := [(0, .inr (.inr x0)), (1, .inl r2)]) [1, 0] rfl ?_
    exact GJ_X12_desk_23 _ _ _ _ _ _ hV

theorem d_X12_fault_0 : decode i_X12_fault.2.1 0 = .ok (.aload_n 0, 1) := by decide +kernel
theorem d_X12_fault_1 : decode i_X12_fault.2.1 1 = .ok (.getfield 13, 3) := by decide +kernel
theorem d_X12_fault_4 : decode i_X12_fault.2.1 4 = .ok (.ireturn, 1) := by decide +kernel
def V_X12_fault (x0 : Nat) (h : Hp) (Q : Int → Hp → Prop) : Prop :=
  hK h x0 = 11 ∧ (Q (hI h x0 3) h)
theorem G_X12_fault {x0 : Nat} (h : Hp) (Q : Int → Hp → Prop) (hV : V_X12_fault x0 h Q) : C_X12_fault x0 h Q := by
  unfold V_X12_fault at hV
  show Go i_X12_fault 0 [(0, .inr (.inr x0))] [] h (qI Q)
  refine s_aload_n d_X12_fault_0 rfl (ma 0 rfl) ?_
  obtain ⟨o, hV⟩ := hV
  refine f_RX12_13g rfl d_X12_fault_1 o ?_
  exact s_iret d_X12_fault_4 rfl rfl ⟨_, rfl, hV⟩

theorem d_X12_runs_0 : decode i_X12_runs.2.1 0 = .ok (.iconst 0, 1) := by decide +kernel
theorem d_X12_runs_1 : decode i_X12_runs.2.1 1 = .ok (.istore_n 1, 1) := by decide +kernel
theorem d_X12_runs_2 : decode i_X12_runs.2.1 2 = .ok (.iconst 0, 1) := by decide +kernel
theorem d_X12_runs_3 : decode i_X12_runs.2.1 3 = .ok (.istore_n 2, 1) := by decide +kernel
theorem d_X12_runs_4 : decode i_X12_runs.2.1 4 = .ok (.iload_n 2, 1) := by decide +kernel
theorem d_X12_runs_5 : decode i_X12_runs.2.1 5 = .ok (.aload_n 0, 1) := by decide +kernel
theorem d_X12_runs_6 : decode i_X12_runs.2.1 6 = .ok (.getfield 32, 3) := by decide +kernel
theorem d_X12_runs_9 : decode i_X12_runs.2.1 9 = .ok (.iconst 0, 1) := by decide +kernel
theorem d_X12_runs_10 : decode i_X12_runs.2.1 10 = .ok (.iaload, 1) := by decide +kernel
theorem d_X12_runs_11 : decode i_X12_runs.2.1 11 = .ok (.if_icmp .ge 42, 3) := by decide +kernel
theorem d_X12_runs_14 : decode i_X12_runs.2.1 14 = .ok (.iload_n 1, 1) := by decide +kernel
theorem d_X12_runs_15 : decode i_X12_runs.2.1 15 = .ok (.iload_n 2, 1) := by decide +kernel
theorem d_X12_runs_16 : decode i_X12_runs.2.1 16 = .ok (.ifCond .eq 24, 3) := by decide +kernel
theorem d_X12_runs_19 : decode i_X12_runs.2.1 19 = .ok (.aload_n 0, 1) := by decide +kernel
theorem d_X12_runs_20 : decode i_X12_runs.2.1 20 = .ok (.getfield 32, 3) := by decide +kernel
theorem d_X12_runs_23 : decode i_X12_runs.2.1 23 = .ok (.iconst 3, 1) := by decide +kernel
theorem d_X12_runs_24 : decode i_X12_runs.2.1 24 = .ok (.iload_n 2, 1) := by decide +kernel
theorem d_X12_runs_25 : decode i_X12_runs.2.1 25 = .ok (.iadd, 1) := by decide +kernel
theorem d_X12_runs_26 : decode i_X12_runs.2.1 26 = .ok (.iaload, 1) := by decide +kernel
theorem d_X12_runs_27 : decode i_X12_runs.2.1 27 = .ok (.aload_n 0, 1) := by decide +kernel
theorem d_X12_runs_28 : decode i_X12_runs.2.1 28 = .ok (.getfield 32, 3) := by decide +kernel
theorem d_X12_runs_31 : decode i_X12_runs.2.1 31 = .ok (.iconst 3, 1) := by decide +kernel
theorem d_X12_runs_32 : decode i_X12_runs.2.1 32 = .ok (.iload_n 2, 1) := by decide +kernel
theorem d_X12_runs_33 : decode i_X12_runs.2.1 33 = .ok (.iadd, 1) := by decide +kernel
theorem d_X12_runs_34 : decode i_X12_runs.2.1 34 = .ok (.iconst 1, 1) := by decide +kernel
theorem d_X12_runs_35 : decode i_X12_runs.2.1 35 = .ok (.isub, 1) := by decide +kernel
theorem d_X12_runs_36 : decode i_X12_runs.2.1 36 = .ok (.iaload, 1) := by decide +kernel
theorem d_X12_runs_37 : decode i_X12_runs.2.1 37 = .ok (.if_icmp .eq 7, 3) := by decide +kernel
theorem d_X12_runs_40 : decode i_X12_runs.2.1 40 = .ok (.iconst 1, 1) := by decide +kernel
theorem d_X12_runs_41 : decode i_X12_runs.2.1 41 = .ok (.goto 4, 3) := by decide +kernel
theorem d_X12_runs_44 : decode i_X12_runs.2.1 44 = .ok (.iconst 0, 1) := by decide +kernel
theorem d_X12_runs_45 : decode i_X12_runs.2.1 45 = .ok (.iadd, 1) := by decide +kernel
theorem d_X12_runs_46 : decode i_X12_runs.2.1 46 = .ok (.istore_n 1, 1) := by decide +kernel
theorem d_X12_runs_47 : decode i_X12_runs.2.1 47 = .ok (.iinc 2 1, 3) := by decide +kernel
theorem d_X12_runs_50 : decode i_X12_runs.2.1 50 = .ok (.goto (-46), 3) := by decide +kernel
theorem d_X12_runs_53 : decode i_X12_runs.2.1 53 = .ok (.iload_n 1, 1) := by decide +kernel
theorem d_X12_runs_54 : decode i_X12_runs.2.1 54 = .ok (.ireturn, 1) := by decide +kernel
def BLp_X12_runs_4 (x0 : Nat) (P4 : Int → Int → Hp → Prop) (x1 : Int) (x2 : Int) (h : Hp) (Q : Int → Hp → Prop) : Prop :=
  hK h x0 = 11 ∧ ((hK h (hR h x0 14) = 12 ∧ (0 : Int) ≤ 0 ∧ 0 < hL h (hR h x0 14)) ∧ ((hI h (hR h x0 14) 0 ≤ x2 → (Q x1 h)) ∧ (¬ hI h (hR h x0 14) 0 ≤ x2 → ((x2 = 0 → (((-2147483648 : Int) ≤ x1 + 1 ∧ x1 + 1 ≤ (2147483647 : Int)) ∧ (∀ x1_1 : Int, x1_1 = x1 + 1 → (((-2147483648 : Int) ≤ x2 + 1 ∧ x2 + 1 ≤ (2147483647 : Int)) ∧ (P4 x1_1 (x2 + 1) h))))) ∧ (¬ x2 = 0 → (hK h x0 = 11 ∧ (((-2147483648 : Int) ≤ 3 + x2 ∧ 3 + x2 ≤ (2147483647 : Int)) ∧ ((hK h (hR h x0 14) = 12 ∧ (0 : Int) ≤ 3 + x2 ∧ 3 + x2 < hL h (hR h x0 14)) ∧ (hK h x0 = 11 ∧ (((-2147483648 : Int) ≤ 3 + x2 ∧ 3 + x2 ≤ (2147483647 : Int)) ∧ (((-2147483648 : Int) ≤ (3 + x2) - 1 ∧ (3 + x2) - 1 ≤ (2147483647 : Int)) ∧ ((hK h (hR h x0 14) = 12 ∧ (0 : Int) ≤ (3 + x2) - 1 ∧ (3 + x2) - 1 < hL h (hR h x0 14)) ∧ ((hI h (hR h x0 14) (3 + x2) = hI h (hR h x0 14) ((3 + x2) - 1) → (((-2147483648 : Int) ≤ x1 + 0 ∧ x1 + 0 ≤ (2147483647 : Int)) ∧ (∀ x1_2 : Int, x1_2 = x1 + 0 → (((-2147483648 : Int) ≤ x2 + 1 ∧ x2 + 1 ≤ (2147483647 : Int)) ∧ (P4 x1_2 (x2 + 1) h))))) ∧ (¬ hI h (hR h x0 14) (3 + x2) = hI h (hR h x0 14) ((3 + x2) - 1) → (((-2147483648 : Int) ≤ x1 + 1 ∧ x1 + 1 ≤ (2147483647 : Int)) ∧ (∀ x1_3 : Int, x1_3 = x1 + 1 → (((-2147483648 : Int) ≤ x2 + 1 ∧ x2 + 1 ≤ (2147483647 : Int)) ∧ (P4 x1_3 (x2 + 1) h))))))))))))))))))
def Lp_X12_runs_4 (x0 : Nat) (x1 : Int) (x2 : Int) (h : Hp) (Q : Int → Hp → Prop) : Prop := ∀ P4 : Int → Int → Hp → Prop, (∀ (x1 : Int) (x2 : Int) (h : Hp), BLp_X12_runs_4 x0 P4 x1 x2 h Q → P4 x1 x2 h) → P4 x1 x2 h
theorem Lp_X12_runs_4_ind {x0 : Nat} {Q : Int → Hp → Prop} (I : Int → Int → Hp → Prop) (μ : Int → Int → Hp → Nat) (hs : ∀ (P4 : Int → Int → Hp → Prop) (x1 : Int) (x2 : Int) (h : Hp), I x1 x2 h → (∀ (x1' : Int) (x2' : Int) (h' : Hp), I x1' x2' h' → μ x1' x2' h' < μ x1 x2 h → P4 x1' x2' h') → BLp_X12_runs_4 x0 P4 x1 x2 h Q) : ∀ (x1 : Int) (x2 : Int) (h : Hp), I x1 x2 h → Lp_X12_runs_4 x0 x1 x2 h Q := by
  intro x1 x2 h hI P4 hP
  have key : ∀ (n : Nat) (x1 : Int) (x2 : Int) (h : Hp), I x1 x2 h → μ x1 x2 h < n → P4 x1 x2 h := by
    intro n
    induction n with
    | zero => intro x1 x2 h _ hl; exact absurd hl (Nat.not_lt_zero _)
    | succ n ih => intro x1 x2 h hi hl; exact hP x1 x2 h (hs P4 x1 x2 h hi (fun x1 x2 h' hi' hl' => ih x1 x2 h' hi' (by omega)))
  exact key _ x1 x2 h hI (Nat.lt_succ_self _)
theorem GLp_X12_runs_4 (x0 : Nat) (x1 : Int) (x2 : Int) (h : Hp) (Q : Int → Hp → Prop) (hV : Lp_X12_runs_4 x0 x1 x2 h Q) : Go i_X12_runs 4 [(0, .inr (.inr x0)), (1, .inl x1), (2, .inl x2)] [] h (qI Q) := by
  refine hV (fun x1 x2 h => Go i_X12_runs 4 [(0, .inr (.inr x0)), (1, .inl x1), (2, .inl x2)] [] h (qI Q)) (fun x1 x2 h hV => ?_)
  unfold BLp_X12_runs_4 at hV
  have hP4 : ∀ (x1 : Int) (x2 : Int) (h : Hp), Go i_X12_runs 4 [(0, .inr (.inr x0)), (1, .inl x1), (2, .inl x2)] [] h (qI Q) → Go i_X12_runs 4 [(0, .inr (.inr x0)), (1, .inl x1), (2, .inl x2)] [] h (qI Q) := fun _ _ h z => z
  refine s_iload_n d_X12_runs_4 rfl (ma 2 rfl) ?_
  refine s_aload_n d_X12_runs_5 rfl (ma 0 rfl) ?_
  obtain ⟨o, hV⟩ := hV
  refine f_RX12_32g rfl d_X12_runs_6 o ?_
  refine s_iconst d_X12_runs_9 (okn rfl) ?_
  obtain ⟨o, hV⟩ := hV
  refine s_iald d_X12_runs_10 o.1 o.2.1 o.2.2 ?_
  refine s_icmp_ge (tgt := 53) d_X12_runs_11 (by decide) (fun c => ?_) (fun c => ?_)
  · have hV := hV.1 c
    refine s_iload_n d_X12_runs_53 rfl (ma 1 rfl) ?_
    exact s_iret d_X12_runs_54 rfl rfl ⟨_, rfl, hV⟩
  · have hV := hV.2 c
    refine s_iload_n d_X12_runs_14 rfl (ma 1 rfl) ?_
    refine s_iload_n d_X12_runs_15 rfl (ma 2 rfl) ?_
    refine s_if_eq (tgt := 40) d_X12_runs_16 (by decide) (fun c => ?_) (fun c => ?_)
    · have hV := hV.1 c
      refine s_iconst d_X12_runs_40 (okn rfl) ?_
      refine s_goto (tgt := 45) d_X12_runs_41 (by decide) ?_
      obtain ⟨o, hV⟩ := hV
      refine s_iadd d_X12_runs_45 o ?_
      refine s_nmI (fun x1_1 ex1_1 => ?_)
      have hV := hV x1_1 ex1_1
      refine s_istore_n (lv' := [(1, .inl x1_1), (0, .inr (.inr x0)), (2, .inl x2)]) d_X12_runs_46 rfl (Nat.le_of_ble_eq_true rfl) rfl ?_
      obtain ⟨o, hV⟩ := hV
      refine s_iinc (lv' := [(2, .inl (x2 + 1)), (1, .inl x1_1), (0, .inr (.inr x0))]) d_X12_runs_47 (ma 2 rfl) o (Nat.le_of_ble_eq_true rfl) rfl ?_
      refine s_goto (tgt := 4) d_X12_runs_50 (by decide) ?_
      refine s_pick (lv' := [(0, .inr (.inr x0)), (1, .inl x1_1), (2, .inl (x2 + 1))]) [2, 1, 0] rfl ?_
      exact hP4 _ _ _ hV
    · have hV := hV.2 c
      refine s_aload_n d_X12_runs_19 rfl (ma 0 rfl) ?_
      obtain ⟨o, hV⟩ := hV
      refine f_RX12_32g rfl d_X12_runs_20 o ?_
      refine s_iconst d_X12_runs_23 (okn rfl) ?_
      refine s_iload_n d_X12_runs_24 rfl (ma 2 rfl) ?_
      obtain ⟨o, hV⟩ := hV
      refine s_iadd d_X12_runs_25 o ?_
      obtain ⟨o, hV⟩ := hV
      refine s_iald d_X12_runs_26 o.1 o.2.1 o.2.2 ?_
      refine s_aload_n d_X12_runs_27 rfl (ma 0 rfl) ?_
      obtain ⟨o, hV⟩ := hV
      refine f_RX12_32g rfl d_X12_runs_28 o ?_
      refine s_iconst d_X12_runs_31 (okn rfl) ?_
      refine s_iload_n d_X12_runs_32 rfl (ma 2 rfl) ?_
      obtain ⟨o, hV⟩ := hV
      refine s_iadd d_X12_runs_33 o ?_
      refine s_iconst d_X12_runs_34 (okn rfl) ?_
      obtain ⟨o, hV⟩ := hV
      refine s_isub d_X12_runs_35 o ?_
      obtain ⟨o, hV⟩ := hV
      refine s_iald d_X12_runs_36 o.1 o.2.1 o.2.2 ?_
      refine s_icmp_eq (tgt := 44) d_X12_runs_37 (by decide) (fun c => ?_) (fun c => ?_)
      · have hV := hV.1 c
        refine s_iconst d_X12_runs_44 (okn rfl) ?_
        obtain ⟨o, hV⟩ := hV
        refine s_iadd d_X12_runs_45 o ?_
        refine s_nmI (fun x1_2 ex1_2 => ?_)
        have hV := hV x1_2 ex1_2
        refine s_istore_n (lv' := [(1, .inl x1_2), (0, .inr (.inr x0)), (2, .inl x2)]) d_X12_runs_46 rfl (Nat.le_of_ble_eq_true rfl) rfl ?_
        obtain ⟨o, hV⟩ := hV
        refine s_iinc (lv' := [(2, .inl (x2 + 1)), (1, .inl x1_2), (0, .inr (.inr x0))]) d_X12_runs_47 (ma 2 rfl) o (Nat.le_of_ble_eq_true rfl) rfl ?_
        refine s_goto (tgt := 4) d_X12_runs_50 (by decide) ?_
        refine s_pick (lv' := [(0, .inr (.inr x0)), (1, .inl x1_2), (2, .inl (x2 + 1))]) [2, 1, 0] rfl ?_
        exact hP4 _ _ _ hV
      · have hV := hV.2 c
        refine s_iconst d_X12_runs_40 (okn rfl) ?_
        refine s_goto (tgt := 45) d_X12_runs_41 (by decide) ?_
        obtain ⟨o, hV⟩ := hV
        refine s_iadd d_X12_runs_45 o ?_
        refine s_nmI (fun x1_3 ex1_3 => ?_)
        have hV := hV x1_3 ex1_3
        refine s_istore_n (lv' := [(1, .inl x1_3), (0, .inr (.inr x0)), (2, .inl x2)]) d_X12_runs_46 rfl (Nat.le_of_ble_eq_true rfl) rfl ?_
        obtain ⟨o, hV⟩ := hV
        refine s_iinc (lv' := [(2, .inl (x2 + 1)), (1, .inl x1_3), (0, .inr (.inr x0))]) d_X12_runs_47 (ma 2 rfl) o (Nat.le_of_ble_eq_true rfl) rfl ?_
        refine s_goto (tgt := 4) d_X12_runs_50 (by decide) ?_
        refine s_pick (lv' := [(0, .inr (.inr x0)), (1, .inl x1_3), (2, .inl (x2 + 1))]) [2, 1, 0] rfl ?_
        exact hP4 _ _ _ hV
def V_X12_runs (x0 : Nat) (h : Hp) (Q : Int → Hp → Prop) : Prop :=
  Lp_X12_runs_4 x0 0 0 h Q
theorem G_X12_runs {x0 : Nat} (h : Hp) (Q : Int → Hp → Prop) (hV : V_X12_runs x0 h Q) : C_X12_runs x0 h Q := by
  unfold V_X12_runs at hV
  show Go i_X12_runs 0 [(0, .inr (.inr x0))] [] h (qI Q)
  refine s_iconst d_X12_runs_0 (okn rfl) ?_
  refine s_istore_n (lv' := [(1, .inl 0), (0, .inr (.inr x0))]) d_X12_runs_1 rfl (Nat.le_of_ble_eq_true rfl) rfl ?_
  refine s_iconst d_X12_runs_2 (okn rfl) ?_
  refine s_istore_n (lv' := [(2, .inl 0), (1, .inl 0), (0, .inr (.inr x0))]) d_X12_runs_3 rfl (Nat.le_of_ble_eq_true rfl) rfl ?_
  refine s_pick (lv' := [(0, .inr (.inr x0)), (1, .inl 0), (2, .inl 0)]) [2, 1, 0] rfl ?_
  exact GLp_X12_runs_4 _ _ _ _ _ hV

theorem d_X12_longest_0 : decode i_X12_longest.2.1 0 = .ok (.iconst (-1), 1) := by decide +kernel
theorem d_X12_longest_1 : decode i_X12_longest.2.1 1 = .ok (.istore_n 2, 1) := by decide +kernel
theorem d_X12_longest_2 : decode i_X12_longest.2.1 2 = .ok (.iconst (-1), 1) := by decide +kernel
theorem d_X12_longest_3 : decode i_X12_longest.2.1 3 = .ok (.istore_n 3, 1) := by decide +kernel
theorem d_X12_longest_4 : decode i_X12_longest.2.1 4 = .ok (.iconst 0, 1) := by decide +kernel
theorem d_X12_longest_5 : decode i_X12_longest.2.1 5 = .ok (.istore 4, 2) := by decide +kernel
theorem d_X12_longest_7 : decode i_X12_longest.2.1 7 = .ok (.iconst 0, 1) := by decide +kernel
theorem d_X12_longest_8 : decode i_X12_longest.2.1 8 = .ok (.istore 5, 2) := by decide +kernel
theorem d_X12_longest_10 : decode i_X12_longest.2.1 10 = .ok (.iload 5, 2) := by decide +kernel
theorem d_X12_longest_12 : decode i_X12_longest.2.1 12 = .ok (.aload_n 0, 1) := by decide +kernel
theorem d_X12_longest_13 : decode i_X12_longest.2.1 13 = .ok (.getfield 32, 3) := by decide +kernel
theorem d_X12_longest_16 : decode i_X12_longest.2.1 16 = .ok (.iconst 0, 1) := by decide +kernel
theorem d_X12_longest_17 : decode i_X12_longest.2.1 17 = .ok (.iaload, 1) := by decide +kernel
theorem d_X12_longest_18 : decode i_X12_longest.2.1 18 = .ok (.if_icmp .ge 80, 3) := by decide +kernel
theorem d_X12_longest_21 : decode i_X12_longest.2.1 21 = .ok (.iload 5, 2) := by decide +kernel
theorem d_X12_longest_23 : decode i_X12_longest.2.1 23 = .ok (.ifCond .le 33, 3) := by decide +kernel
theorem d_X12_longest_26 : decode i_X12_longest.2.1 26 = .ok (.aload_n 0, 1) := by decide +kernel
theorem d_X12_longest_27 : decode i_X12_longest.2.1 27 = .ok (.getfield 32, 3) := by decide +kernel
theorem d_X12_longest_30 : decode i_X12_longest.2.1 30 = .ok (.iconst 3, 1) := by decide +kernel
theorem d_X12_longest_31 : decode i_X12_longest.2.1 31 = .ok (.iload 5, 2) := by decide +kernel
theorem d_X12_longest_33 : decode i_X12_longest.2.1 33 = .ok (.iadd, 1) := by decide +kernel
theorem d_X12_longest_34 : decode i_X12_longest.2.1 34 = .ok (.iaload, 1) := by decide +kernel
theorem d_X12_longest_35 : decode i_X12_longest.2.1 35 = .ok (.aload_n 0, 1) := by decide +kernel
theorem d_X12_longest_36 : decode i_X12_longest.2.1 36 = .ok (.getfield 32, 3) := by decide +kernel
theorem d_X12_longest_39 : decode i_X12_longest.2.1 39 = .ok (.iconst 3, 1) := by decide +kernel
theorem d_X12_longest_40 : decode i_X12_longest.2.1 40 = .ok (.iload 5, 2) := by decide +kernel
theorem d_X12_longest_42 : decode i_X12_longest.2.1 42 = .ok (.iadd, 1) := by decide +kernel
theorem d_X12_longest_43 : decode i_X12_longest.2.1 43 = .ok (.iconst 1, 1) := by decide +kernel
theorem d_X12_longest_44 : decode i_X12_longest.2.1 44 = .ok (.isub, 1) := by decide +kernel
theorem d_X12_longest_45 : decode i_X12_longest.2.1 45 = .ok (.iaload, 1) := by decide +kernel
theorem d_X12_longest_46 : decode i_X12_longest.2.1 46 = .ok (.if_icmp .ne 10, 3) := by decide +kernel
theorem d_X12_longest_49 : decode i_X12_longest.2.1 49 = .ok (.iload 4, 2) := by decide +kernel
theorem d_X12_longest_51 : decode i_X12_longest.2.1 51 = .ok (.iconst 1, 1) := by decide +kernel
theorem d_X12_longest_52 : decode i_X12_longest.2.1 52 = .ok (.iadd, 1) := by decide +kernel
theorem d_X12_longest_53 : decode i_X12_longest.2.1 53 = .ok (.goto 4, 3) := by decide +kernel
theorem d_X12_longest_56 : decode i_X12_longest.2.1 56 = .ok (.iconst 1, 1) := by decide +kernel
theorem d_X12_longest_57 : decode i_X12_longest.2.1 57 = .ok (.istore 4, 2) := by decide +kernel
theorem d_X12_longest_59 : decode i_X12_longest.2.1 59 = .ok (.iload 4, 2) := by decide +kernel
theorem d_X12_longest_61 : decode i_X12_longest.2.1 61 = .ok (.iload_n 2, 1) := by decide +kernel
theorem d_X12_longest_62 : decode i_X12_longest.2.1 62 = .ok (.if_icmp .le 15, 3) := by decide +kernel
theorem d_X12_longest_65 : decode i_X12_longest.2.1 65 = .ok (.aload_n 0, 1) := by decide +kernel
theorem d_X12_longest_66 : decode i_X12_longest.2.1 66 = .ok (.getfield 32, 3) := by decide +kernel
theorem d_X12_longest_69 : decode i_X12_longest.2.1 69 = .ok (.iconst 3, 1) := by decide +kernel
theorem d_X12_longest_70 : decode i_X12_longest.2.1 70 = .ok (.iload 5, 2) := by decide +kernel
theorem d_X12_longest_72 : decode i_X12_longest.2.1 72 = .ok (.iadd, 1) := by decide +kernel
theorem d_X12_longest_73 : decode i_X12_longest.2.1 73 = .ok (.iaload, 1) := by decide +kernel
theorem d_X12_longest_74 : decode i_X12_longest.2.1 74 = .ok (.goto 4, 3) := by decide +kernel
theorem d_X12_longest_77 : decode i_X12_longest.2.1 77 = .ok (.iload_n 3, 1) := by decide +kernel
theorem d_X12_longest_78 : decode i_X12_longest.2.1 78 = .ok (.istore_n 3, 1) := by decide +kernel
theorem d_X12_longest_79 : decode i_X12_longest.2.1 79 = .ok (.iload 4, 2) := by decide +kernel
theorem d_X12_longest_81 : decode i_X12_longest.2.1 81 = .ok (.iload_n 2, 1) := by decide +kernel
theorem d_X12_longest_82 : decode i_X12_longest.2.1 82 = .ok (.if_icmp .le 8, 3) := by decide +kernel
theorem d_X12_longest_85 : decode i_X12_longest.2.1 85 = .ok (.iload 4, 2) := by decide +kernel
theorem d_X12_longest_87 : decode i_X12_longest.2.1 87 = .ok (.goto 4, 3) := by decide +kernel
theorem d_X12_longest_90 : decode i_X12_longest.2.1 90 = .ok (.iload_n 2, 1) := by decide +kernel
theorem d_X12_longest_91 : decode i_X12_longest.2.1 91 = .ok (.istore_n 2, 1) := by decide +kernel
theorem d_X12_longest_92 : decode i_X12_longest.2.1 92 = .ok (.iinc 5 1, 3) := by decide +kernel
theorem d_X12_longest_95 : decode i_X12_longest.2.1 95 = .ok (.goto (-85), 3) := by decide +kernel
theorem d_X12_longest_98 : decode i_X12_longest.2.1 98 = .ok (.iload_n 1, 1) := by decide +kernel
theorem d_X12_longest_99 : decode i_X12_longest.2.1 99 = .ok (.bipush 7, 2) := by decide +kernel
theorem d_X12_longest_101 : decode i_X12_longest.2.1 101 = .ok (.if_icmp .ne 7, 3) := by decide +kernel
theorem d_X12_longest_104 : decode i_X12_longest.2.1 104 = .ok (.iload_n 2, 1) := by decide +kernel
theorem d_X12_longest_105 : decode i_X12_longest.2.1 105 = .ok (.goto 4, 3) := by decide +kernel
theorem d_X12_longest_108 : decode i_X12_longest.2.1 108 = .ok (.iload_n 3, 1) := by decide +kernel
theorem d_X12_longest_109 : decode i_X12_longest.2.1 109 = .ok (.ireturn, 1) := by decide +kernel
def J_X12_longest_78 (P10 : Int → Int → Int → Int → Hp → Prop) (x0 : Nat) (x1 : Int) (x2 : Int) (x4 : Int) (x5 : Int) (y0 : Int) (h : Hp) (Q : Int → Hp → Prop) : Prop :=
  (x4 ≤ x2 → (((-2147483648 : Int) ≤ x5 + 1 ∧ x5 + 1 ≤ (2147483647 : Int)) ∧ (P10 x2 y0 x4 (x5 + 1) h))) ∧ (¬ x4 ≤ x2 → (((-2147483648 : Int) ≤ x5 + 1 ∧ x5 + 1 ≤ (2147483647 : Int)) ∧ (P10 x4 y0 x4 (x5 + 1) h)))
theorem GJ_X12_longest_78 {P10 : Int → Int → Int → Int → Hp → Prop} (x0 : Nat) (x1 : Int) (x2 : Int) (x4 : Int) (x5 : Int) (y0 : Int) (h : Hp) (Q : Int → Hp → Prop) (hP10 : ∀ (m2 : Int) (m3 : Int) (m4 : Int) (m5 : Int) (h : Hp), P10 m2 m3 m4 m5 h → Go i_X12_longest 10 [(0, .inr (.inr x0)), (1, .inl x1), (2, .inl m2), (3, .inl m3), (4, .inl m4), (5, .inl m5)] [] h (qI Q)) (hV : J_X12_longest_78 P10 x0 x1 x2 x4 x5 y0 h Q) : Go i_X12_longest 78 [(0, .inr (.inr x0)), (1, .inl x1), (2, .inl x2), (4, .inl x4), (5, .inl x5)] [.inl y0] h (qI Q) := by
  unfold J_X12_longest_78 at hV
  refine s_istore_n (lv' := [(3, .inl y0), (0, .inr (.inr x0)), (1, .inl x1), (2, .inl x2), (4, .inl x4), (5, .inl x5)]) d_X12_longest_78 rfl (Nat.le_of_ble_eq_true rfl) rfl ?_
  refine s_iload d_X12_longest_79 (ma 4 rfl) ?_
  refine s_iload_n d_X12_longest_81 rfl (ma 3 rfl) ?_
  refine s_icmp_le (tgt := 90) d_X12_longest_82 (by decide) (fun c => ?_) (fun c => ?_)
  · have hV := hV.1 c
    refine s_iload_n d_X12_longest_90 rfl (ma 3 rfl) ?_
    refine s_istore_n (lv' := [(2, .inl x2), (3, .inl y0), (0, .inr (.inr x0)), (1, .inl x1), (4, .inl x4), (5, .inl x5)]) d_X12_longest_91 rfl (Nat.le_of_ble_eq_true rfl) rfl ?_
    obtain ⟨o, hV⟩ := hV
    refine s_iinc (lv' := [(5, .inl (x5 + 1)), (2, .inl x2), (3, .inl y0), (0, .inr (.inr x0)), (1, .inl x1), (4, .inl x4)]) d_X12_longest_92 (ma 5 rfl) o (Nat.le_of_ble_eq_true rfl) rfl ?_
    refine s_goto (tgt := 10) d_X12_longest_95 (by decide) ?_
    refine s_pick (lv' := [(0, .inr (.inr x0)), (1, .inl x1), (2, .inl x2), (3, .inl y0), (4, .inl x4), (5, .inl (x5 + 1))]) [3, 4, 1, 2, 5, 0] rfl ?_
    exact hP10 _ _ _ _ _ hV
  · have hV := hV.2 c
    refine s_iload d_X12_longest_85 (ma 4 rfl) ?_
    refine s_goto (tgt := 91) d_X12_longest_87 (by decide) ?_
    refine s_istore_n (lv' := [(2, .inl x4), (3, .inl y0), (0, .inr (.inr x0)), (1, .inl x1), (4, .inl x4), (5, .inl x5)]) d_X12_longest_91 rfl (Nat.le_of_ble_eq_true rfl) rfl ?_
    obtain ⟨o, hV⟩ := hV
    refine s_iinc (lv' := [(5, .inl (x5 + 1)), (2, .inl x4), (3, .inl y0), (0, .inr (.inr x0)), (1, .inl x1), (4, .inl x4)]) d_X12_longest_92 (ma 5 rfl) o (Nat.le_of_ble_eq_true rfl) rfl ?_
    refine s_goto (tgt := 10) d_X12_longest_95 (by decide) ?_
    refine s_pick (lv' := [(0, .inr (.inr x0)), (1, .inl x1), (2, .inl x4), (3, .inl y0), (4, .inl x4), (5, .inl (x5 + 1))]) [3, 4, 1, 2, 5, 0] rfl ?_
    exact hP10 _ _ _ _ _ hV
def J_X12_longest_57 (P10 : Int → Int → Int → Int → Hp → Prop) (x0 : Nat) (x1 : Int) (x2 : Int) (x3 : Int) (x5 : Int) (y0 : Int) (h : Hp) (Q : Int → Hp → Prop) : Prop :=
  (y0 ≤ x2 → (J_X12_longest_78 P10 x0 x1 x2 y0 x5 x3 h Q)) ∧ (¬ y0 ≤ x2 → (hK h x0 = 11 ∧ (((-2147483648 : Int) ≤ 3 + x5 ∧ 3 + x5 ≤ (2147483647 : Int)) ∧ ((hK h (hR h x0 14) = 12 ∧ (0 : Int) ≤ 3 + x5 ∧ 3 + x5 < hL h (hR h x0 14)) ∧ (J_X12_longest_78 P10 x0 x1 x2 y0 x5 (hI h (hR h x0 14) (3 + x5)) h Q)))))
theorem GJ_X12_longest_57 {P10 : Int → Int → Int → Int → Hp → Prop} (x0 : Nat) (x1 : Int) (x2 : Int) (x3 : Int) (x5 : Int) (y0 : Int) (h : Hp) (Q : Int → Hp → Prop) (hP10 : ∀ (m2 : Int) (m3 : Int) (m4 : Int) (m5 : Int) (h : Hp), P10 m2 m3 m4 m5 h → Go i_X12_longest 10 [(0, .inr (.inr x0)), (1, .inl x1), (2, .inl m2), (3, .inl m3), (4, .inl m4), (5, .inl m5)] [] h (qI Q)) (hV : J_X12_longest_57 P10 x0 x1 x2 x3 x5 y0 h Q) : Go i_X12_longest 57 [(0, .inr (.inr x0)), (1, .inl x1), (2, .inl x2), (3, .inl x3), (5, .inl x5)] [.inl y0] h (qI Q) := by
  unfold J_X12_longest_57 at hV
  refine s_istore (lv' := [(4, .inl y0), (0, .inr (.inr x0)), (1, .inl x1), (2, .inl x2), (3, .inl x3), (5, .inl x5)]) d_X12_longest_57 (Nat.le_of_ble_eq_true rfl) rfl ?_
  refine s_iload d_X12_longest_59 (ma 0 rfl) ?_
  refine s_iload_n d_X12_longest_61 rfl (ma 3 rfl) ?_
  refine s_icmp_le (tgt := 77) d_X12_longest_62 (by decide) (fun c => ?_) (fun c => ?_)
  · have hV := hV.1 c
    refine s_iload_n d_X12_longest_77 rfl (ma 4 rfl) ?_
    refine s_pick (lv' := [(0, .inr (.inr x0)), (1, .inl x1), (2, .inl x2), (4, .inl y0), (5, .inl x5)]) [1, 2, 3, 0, 5] rfl ?_
    exact GJ_X12_longest_78 _ _ _ _ _ _ _ _ (by intros; apply hP10; assumption) hV
  · have hV := hV.2 c
    refine s_aload_n d_X12_longest_65 rfl (ma 1 rfl) ?_
    obtain ⟨o, hV⟩ := hV
    refine f_RX12_32g rfl d_X12_longest_66 o ?_
    refine s_iconst d_X12_longest_69 (okn rfl) ?_
    refine s_iload d_X12_longest_70 (ma 5 rfl) ?_
    obtain ⟨o, hV⟩ := hV
    refine s_iadd d_X12_longest_72 o ?_
    obtain ⟨o, hV⟩ := hV
    refine s_iald d_X12_longest_73 o.1 o.2.1 o.2.2 ?_
    refine s_goto (tgt := 78) d_X12_longest_74 (by decide) ?_
    refine s_pick (lv' := [(0, .inr (.inr x0)), (1, .inl x1), (2, .inl x2), (4, .inl y0), (5, .inl x5)]) [1, 2, 3, 0, 5] rfl ?_
    exact GJ_X12_longest_78 _ _ _ _ _ _ _ _ (by intros; apply hP10; assumption) hV
def J_X12_longest_56 (P10 : Int → Int → Int → Int → Hp → Prop) (x0 : Nat) (x1 : Int) (x2 : Int) (x3 : Int) (x5 : Int) (h : Hp) (Q : Int → Hp → Prop) : Prop :=
  J_X12_longest_57 P10 x0 x1 x2 x3 x5 1 h Q
theorem GJ_X12_longest_56 {P10 : Int → Int → Int → Int → Hp → Prop} (x0 : Nat) (x1 : Int) (x2 : Int) (x3 : Int) (x5 : Int) (h : Hp) (Q : Int → Hp → Prop) (hP10 : ∀ (m2 : Int) (m3 : Int) (m4 : Int) (m5 : Int) (h : Hp), P10 m2 m3 m4 m5 h → Go i_X12_longest 10 [(0, .inr (.inr x0)), (1, .inl x1), (2, .inl m2), (3, .inl m3), (4, .inl m4), (5, .inl m5)] [] h (qI Q)) (hV : J_X12_longest_56 P10 x0 x1 x2 x3 x5 h Q) : Go i_X12_longest 56 [(0, .inr (.inr x0)), (1, .inl x1), (2, .inl x2), (3, .inl x3), (5, .inl x5)] [] h (qI Q) := by
  unfold J_X12_longest_56 at hV
  refine s_iconst d_X12_longest_56 (okn rfl) ?_
  exact GJ_X12_longest_57 _ _ _ _ _ _ _ _ (by intros; apply hP10; assumption) hV
def BLp_X12_longest_10 (x0 : Nat) (x1 : Int) (P10 : Int → Int → Int → Int → Hp → Prop) (x2 : Int) (x3 : Int) (x4 : Int) (x5 : Int) (h : Hp) (Q : Int → Hp → Prop) : Prop :=
  hK h x0 = 11 ∧ ((hK h (hR h x0 14) = 12 ∧ (0 : Int) ≤ 0 ∧ 0 < hL h (hR h x0 14)) ∧ ((hI h (hR h x0 14) 0 ≤ x5 → ((x1 ≠ 7 → (Q x3 h)) ∧ (x1 = 7 → (Q x2 h)))) ∧ (¬ hI h (hR h x0 14) 0 ≤ x5 → ((x5 ≤ 0 → (J_X12_longest_56 P10 x0 x1 x2 x3 x5 h Q)) ∧ (¬ x5 ≤ 0 → (hK h x0 = 11 ∧ (((-2147483648 : Int) ≤ 3 + x5 ∧ 3 + x5 ≤ (2147483647 : Int)) ∧ ((hK h (hR h x0 14) = 12 ∧ (0 : Int) ≤ 3 + x5 ∧ 3 + x5 < hL h (hR h x0 14)) ∧ (hK h x0 = 11 ∧ (((-2147483648 : Int) ≤ 3 + x5 ∧ 3 + x5 ≤ (2147483647 : Int)) ∧ (((-2147483648 : Int) ≤ (3 + x5) - 1 ∧ (3 + x5) - 1 ≤ (2147483647 : Int)) ∧ ((hK h (hR h x0 14) = 12 ∧ (0 : Int) ≤ (3 + x5) - 1 ∧ (3 + x5) - 1 < hL h (hR h x0 14)) ∧ ((hI h (hR h x0 14) (3 + x5) ≠ hI h (hR h x0 14) ((3 + x5) - 1) → (J_X12_longest_56 P10 x0 x1 x2 x3 x5 h Q)) ∧ (hI h (hR h x0 14) (3 + x5) = hI h (hR h x0 14) ((3 + x5) - 1) → (((-2147483648 : Int) ≤ x4 + 1 ∧ x4 + 1 ≤ (2147483647 : Int)) ∧ (J_X12_longest_57 P10 x0 x1 x2 x3 x5 (x4 + 1) h Q))))))))))))))))
def Lp_X12_longest_10 (x0 : Nat) (x1 : Int) (x2 : Int) (x3 : Int) (x4 : Int) (x5 : Int) (h : Hp) (Q : Int → Hp → Prop) : Prop := ∀ P10 : Int → Int → Int → Int → Hp → Prop, (∀ (x2 : Int) (x3 : Int) (x4 : Int) (x5 : Int) (h : Hp), BLp_X12_longest_10 x0 x1 P10 x2 x3 x4 x5 h Q → P10 x2 x3 x4 x5 h) → P10 x2 x3 x4 x5 h
theorem Lp_X12_longest_10_ind {x0 : Nat} {x1 : Int} {Q : Int → Hp → Prop} (I : Int → Int → Int → Int → Hp → Prop) (μ : Int → Int → Int → Int → Hp → Nat) (hs : ∀ (P10 : Int → Int → Int → Int → Hp → Prop) (x2 : Int) (x3 : Int) (x4 : Int) (x5 : Int) (h : Hp), I x2 x3 x4 x5 h → (∀ (x2' : Int) (x3' : Int) (x4' : Int) (x5' : Int) (h' : Hp), I x2' x3' x4' x5' h' → μ x2' x3' x4' x5' h' < μ x2 x3 x4 x5 h → P10 x2' x3' x4' x5' h') → BLp_X12_longest_10 x0 x1 P10 x2 x3 x4 x5 h Q) : ∀ (x2 : Int) (x3 : Int) (x4 : Int) (x5 : Int) (h : Hp), I x2 x3 x4 x5 h → Lp_X12_longest_10 x0 x1 x2 x3 x4 x5 h Q := by
  intro x2 x3 x4 x5 h hI P10 hP
  have key : ∀ (n : Nat) (x2 : Int) (x3 : Int) (x4 : Int) (x5 : Int) (h : Hp), I x2 x3 x4 x5 h → μ x2 x3 x4 x5 h < n → P10 x2 x3 x4 x5 h := by
    intro n
    induction n with
    | zero => intro x2 x3 x4 x5 h _ hl; exact absurd hl (Nat.not_lt_zero _)
    | succ n ih => intro x2 x3 x4 x5 h hi hl; exact hP x2 x3 x4 x5 h (hs P10 x2 x3 x4 x5 h hi (fun x2 x3 x4 x5 h' hi' hl' => ih x2 x3 x4 x5 h' hi' (by omega)))
  exact key _ x2 x3 x4 x5 h hI (Nat.lt_succ_self _)
theorem GLp_X12_longest_10 (x0 : Nat) (x1 : Int) (x2 : Int) (x3 : Int) (x4 : Int) (x5 : Int) (h : Hp) (Q : Int → Hp → Prop) (hV : Lp_X12_longest_10 x0 x1 x2 x3 x4 x5 h Q) : Go i_X12_longest 10 [(0, .inr (.inr x0)), (1, .inl x1), (2, .inl x2), (3, .inl x3), (4, .inl x4), (5, .inl x5)] [] h (qI Q) := by
  refine hV (fun x2 x3 x4 x5 h => Go i_X12_longest 10 [(0, .inr (.inr x0)), (1, .inl x1), (2, .inl x2), (3, .inl x3), (4, .inl x4), (5, .inl x5)] [] h (qI Q)) (fun x2 x3 x4 x5 h hV => ?_)
  unfold BLp_X12_longest_10 at hV
  have hP10 : ∀ (x2 : Int) (x3 : Int) (x4 : Int) (x5 : Int) (h : Hp), Go i_X12_longest 10 [(0, .inr (.inr x0)), (1, .inl x1), (2, .inl x2), (3, .inl x3), (4, .inl x4), (5, .inl x5)] [] h (qI Q) → Go i_X12_longest 10 [(0, .inr (.inr x0)), (1, .inl x1), (2, .inl x2), (3, .inl x3), (4, .inl x4), (5, .inl x5)] [] h (qI Q) := fun _ _ _ _ h z => z
  refine s_iload d_X12_longest_10 (ma 5 rfl) ?_
  refine s_aload_n d_X12_longest_12 rfl (ma 0 rfl) ?_
  obtain ⟨o, hV⟩ := hV
  refine f_RX12_32g rfl d_X12_longest_13 o ?_
  refine s_iconst d_X12_longest_16 (okn rfl) ?_
  obtain ⟨o, hV⟩ := hV
  refine s_iald d_X12_longest_17 o.1 o.2.1 o.2.2 ?_
  refine s_icmp_ge (tgt := 98) d_X12_longest_18 (by decide) (fun c => ?_) (fun c => ?_)
  · have hV := hV.1 c
    refine s_iload_n d_X12_longest_98 rfl (ma 1 rfl) ?_
    refine s_bipush d_X12_longest_99 (by decide) (okn rfl) ?_
    refine s_icmp_ne (tgt := 108) d_X12_longest_101 (by decide) (fun c => ?_) (fun c => ?_)
    · have hV := hV.1 c
      refine s_iload_n d_X12_longest_108 rfl (ma 3 rfl) ?_
      exact s_iret d_X12_longest_109 rfl rfl ⟨_, rfl, hV⟩
    · have hV := hV.2 c
      refine s_iload_n d_X12_longest_104 rfl (ma 2 rfl) ?_
      refine s_goto (tgt := 109) d_X12_longest_105 (by decide) ?_
      exact s_iret d_X12_longest_109 rfl rfl ⟨_, rfl, hV⟩
  · have hV := hV.2 c
    refine s_iload d_X12_longest_21 (ma 5 rfl) ?_
    refine s_if_le (tgt := 56) d_X12_longest_23 (by decide) (fun c => ?_) (fun c => ?_)
    · have hV := hV.1 c
      refine s_pick (lv' := [(0, .inr (.inr x0)), (1, .inl x1), (2, .inl x2), (3, .inl x3), (5, .inl x5)]) [0, 1, 2, 3, 5] rfl ?_
      exact GJ_X12_longest_56 _ _ _ _ _ _ _ (by intros; apply hP10; assumption) hV
    · have hV := hV.2 c
      refine s_aload_n d_X12_longest_26 rfl (ma 0 rfl) ?_
      obtain ⟨o, hV⟩ := hV
      refine f_RX12_32g rfl d_X12_longest_27 o ?_
      refine s_iconst d_X12_longest_30 (okn rfl) ?_
      refine s_iload d_X12_longest_31 (ma 5 rfl) ?_
      obtain ⟨o, hV⟩ := hV
      refine s_iadd d_X12_longest_33 o ?_
      obtain ⟨o, hV⟩ := hV
      refine s_iald d_X12_longest_34 o.1 o.2.1 o.2.2 ?_
      refine s_aload_n d_X12_longest_35 rfl (ma 0 rfl) ?_
      obtain ⟨o, hV⟩ := hV
      refine f_RX12_32g rfl d_X12_longest_36 o ?_
      refine s_iconst d_X12_longest_39 (okn rfl) ?_
      refine s_iload d_X12_longest_40 (ma 5 rfl) ?_
      obtain ⟨o, hV⟩ := hV
      refine s_iadd d_X12_longest_42 o ?_
      refine s_iconst d_X12_longest_43 (okn rfl) ?_
      obtain ⟨o, hV⟩ := hV
      refine s_isub d_X12_longest_44 o ?_
      obtain ⟨o, hV⟩ := hV
      refine s_iald d_X12_longest_45 o.1 o.2.1 o.2.2 ?_
      refine s_icmp_ne (tgt := 56) d_X12_longest_46 (by decide) (fun c => ?_) (fun c => ?_)
      · have hV := hV.1 c
        refine s_pick (lv' := [(0, .inr (.inr x0)), (1, .inl x1), (2, .inl x2), (3, .inl x3), (5, .inl x5)]) [0, 1, 2, 3, 5] rfl ?_
        exact GJ_X12_longest_56 _ _ _ _ _ _ _ (by intros; apply hP10; assumption) hV
      · have hV := hV.2 c
        refine s_iload d_X12_longest_49 (ma 4 rfl) ?_
        refine s_iconst d_X12_longest_51 (okn rfl) ?_
        obtain ⟨o, hV⟩ := hV
        refine s_iadd d_X12_longest_52 o ?_
        refine s_goto (tgt := 57) d_X12_longest_53 (by decide) ?_
        refine s_pick (lv' := [(0, .inr (.inr x0)), (1, .inl x1), (2, .inl x2), (3, .inl x3), (5, .inl x5)]) [0, 1, 2, 3, 5] rfl ?_
        exact GJ_X12_longest_57 _ _ _ _ _ _ _ _ (by intros; apply hP10; assumption) hV
def V_X12_longest (x0 : Nat) (x1 : Int) (h : Hp) (Q : Int → Hp → Prop) : Prop :=
  Lp_X12_longest_10 x0 x1 (-1) (-1) 0 0 h Q
theorem G_X12_longest {x0 : Nat} {x1 : Int} (h : Hp) (Q : Int → Hp → Prop) (hV : V_X12_longest x0 x1 h Q) : C_X12_longest x0 x1 h Q := by
  unfold V_X12_longest at hV
  show Go i_X12_longest 0 [(0, .inr (.inr x0)), (1, .inl x1)] [] h (qI Q)
  refine s_iconst d_X12_longest_0 (okn rfl) ?_
  refine s_istore_n (lv' := [(2, .inl (-1)), (0, .inr (.inr x0)), (1, .inl x1)]) d_X12_longest_1 rfl (Nat.le_of_ble_eq_true rfl) rfl ?_
  refine s_iconst d_X12_longest_2 (okn rfl) ?_
  refine s_istore_n (lv' := [(3, .inl (-1)), (2, .inl (-1)), (0, .inr (.inr x0)), (1, .inl x1)]) d_X12_longest_3 rfl (Nat.le_of_ble_eq_true rfl) rfl ?_
  refine s_iconst d_X12_longest_4 (okn rfl) ?_
  refine s_istore (lv' := [(4, .inl 0), (3, .inl (-1)), (2, .inl (-1)), (0, .inr (.inr x0)), (1, .inl x1)]) d_X12_longest_5 (Nat.le_of_ble_eq_true rfl) rfl ?_
  refine s_iconst d_X12_longest_7 (okn rfl) ?_
  refine s_istore (lv' := [(5, .inl 0), (4, .inl 0), (3, .inl (-1)), (2, .inl (-1)), (0, .inr (.inr x0)), (1, .inl x1)]) d_X12_longest_8 (Nat.le_of_ble_eq_true rfl) rfl ?_
  refine s_pick (lv' := [(0, .inr (.inr x0)), (1, .inl x1), (2, .inl (-1)), (3, .inl (-1)), (4, .inl 0), (5, .inl 0)]) [4, 5, 3, 2, 1, 0] rfl ?_
  exact GLp_X12_longest_10 _ _ _ _ _ _ _ _ hV

theorem d_X12_unlikeOnes_0 : decode i_X12_unlikeOnes.2.1 0 = .ok (.iconst 0, 1) := by decide +kernel
theorem d_X12_unlikeOnes_1 : decode i_X12_unlikeOnes.2.1 1 = .ok (.istore_n 1, 1) := by decide +kernel
theorem d_X12_unlikeOnes_2 : decode i_X12_unlikeOnes.2.1 2 = .ok (.iconst 0, 1) := by decide +kernel
theorem d_X12_unlikeOnes_3 : decode i_X12_unlikeOnes.2.1 3 = .ok (.istore_n 2, 1) := by decide +kernel
theorem d_X12_unlikeOnes_4 : decode i_X12_unlikeOnes.2.1 4 = .ok (.iconst 0, 1) := by decide +kernel
theorem d_X12_unlikeOnes_5 : decode i_X12_unlikeOnes.2.1 5 = .ok (.istore_n 3, 1) := by decide +kernel
theorem d_X12_unlikeOnes_6 : decode i_X12_unlikeOnes.2.1 6 = .ok (.iload_n 3, 1) := by decide +kernel
theorem d_X12_unlikeOnes_7 : decode i_X12_unlikeOnes.2.1 7 = .ok (.aload_n 0, 1) := by decide +kernel
theorem d_X12_unlikeOnes_8 : decode i_X12_unlikeOnes.2.1 8 = .ok (.getfield 32, 3) := by decide +kernel
theorem d_X12_unlikeOnes_11 : decode i_X12_unlikeOnes.2.1 11 = .ok (.iconst 0, 1) := by decide +kernel
theorem d_X12_unlikeOnes_12 : decode i_X12_unlikeOnes.2.1 12 = .ok (.iaload, 1) := by decide +kernel
theorem d_X12_unlikeOnes_13 : decode i_X12_unlikeOnes.2.1 13 = .ok (.if_icmp .ge 45, 3) := by decide +kernel
theorem d_X12_unlikeOnes_16 : decode i_X12_unlikeOnes.2.1 16 = .ok (.iload_n 2, 1) := by decide +kernel
theorem d_X12_unlikeOnes_17 : decode i_X12_unlikeOnes.2.1 17 = .ok (.iload_n 1, 1) := by decide +kernel
theorem d_X12_unlikeOnes_18 : decode i_X12_unlikeOnes.2.1 18 = .ok (.aload_n 0, 1) := by decide +kernel
theorem d_X12_unlikeOnes_19 : decode i_X12_unlikeOnes.2.1 19 = .ok (.getfield 32, 3) := by decide +kernel
theorem d_X12_unlikeOnes_22 : decode i_X12_unlikeOnes.2.1 22 = .ok (.iconst 3, 1) := by decide +kernel
theorem d_X12_unlikeOnes_23 : decode i_X12_unlikeOnes.2.1 23 = .ok (.iload_n 3, 1) := by decide +kernel
theorem d_X12_unlikeOnes_24 : decode i_X12_unlikeOnes.2.1 24 = .ok (.iadd, 1) := by decide +kernel
theorem d_X12_unlikeOnes_25 : decode i_X12_unlikeOnes.2.1 25 = .ok (.iaload, 1) := by decide +kernel
theorem d_X12_unlikeOnes_26 : decode i_X12_unlikeOnes.2.1 26 = .ok (.invokestatic 152, 3) := by decide +kernel
theorem d_X12_unlikeOnes_29 : decode i_X12_unlikeOnes.2.1 29 = .ok (.ifCond .eq 7, 3) := by decide +kernel
theorem d_X12_unlikeOnes_32 : decode i_X12_unlikeOnes.2.1 32 = .ok (.iconst 0, 1) := by decide +kernel
theorem d_X12_unlikeOnes_33 : decode i_X12_unlikeOnes.2.1 33 = .ok (.goto 4, 3) := by decide +kernel
theorem d_X12_unlikeOnes_36 : decode i_X12_unlikeOnes.2.1 36 = .ok (.iconst 1, 1) := by decide +kernel
theorem d_X12_unlikeOnes_37 : decode i_X12_unlikeOnes.2.1 37 = .ok (.iadd, 1) := by decide +kernel
theorem d_X12_unlikeOnes_38 : decode i_X12_unlikeOnes.2.1 38 = .ok (.istore_n 2, 1) := by decide +kernel
theorem d_X12_unlikeOnes_39 : decode i_X12_unlikeOnes.2.1 39 = .ok (.iload_n 1, 1) := by decide +kernel
theorem d_X12_unlikeOnes_40 : decode i_X12_unlikeOnes.2.1 40 = .ok (.iconst 1, 1) := by decide +kernel
theorem d_X12_unlikeOnes_41 : decode i_X12_unlikeOnes.2.1 41 = .ok (.aload_n 0, 1) := by decide +kernel
theorem d_X12_unlikeOnes_42 : decode i_X12_unlikeOnes.2.1 42 = .ok (.getfield 32, 3) := by decide +kernel
theorem d_X12_unlikeOnes_45 : decode i_X12_unlikeOnes.2.1 45 = .ok (.iconst 3, 1) := by decide +kernel
theorem d_X12_unlikeOnes_46 : decode i_X12_unlikeOnes.2.1 46 = .ok (.iload_n 3, 1) := by decide +kernel
theorem d_X12_unlikeOnes_47 : decode i_X12_unlikeOnes.2.1 47 = .ok (.iadd, 1) := by decide +kernel
theorem d_X12_unlikeOnes_48 : decode i_X12_unlikeOnes.2.1 48 = .ok (.iaload, 1) := by decide +kernel
theorem d_X12_unlikeOnes_49 : decode i_X12_unlikeOnes.2.1 49 = .ok (.ishl, 1) := by decide +kernel
theorem d_X12_unlikeOnes_50 : decode i_X12_unlikeOnes.2.1 50 = .ok (.ior, 1) := by decide +kernel
theorem d_X12_unlikeOnes_51 : decode i_X12_unlikeOnes.2.1 51 = .ok (.istore_n 1, 1) := by decide +kernel
theorem d_X12_unlikeOnes_52 : decode i_X12_unlikeOnes.2.1 52 = .ok (.iinc 3 1, 3) := by decide +kernel
theorem d_X12_unlikeOnes_55 : decode i_X12_unlikeOnes.2.1 55 = .ok (.goto (-49), 3) := by decide +kernel
theorem d_X12_unlikeOnes_58 : decode i_X12_unlikeOnes.2.1 58 = .ok (.iload_n 2, 1) := by decide +kernel
theorem d_X12_unlikeOnes_59 : decode i_X12_unlikeOnes.2.1 59 = .ok (.ireturn, 1) := by decide +kernel
def J_X12_unlikeOnes_37 (P6 : Int → Int → Int → Hp → Prop) (x0 : Nat) (x1 : Int) (x3 : Int) (y0 : Int) (y1 : Int) (h : Hp) (Q : Int → Hp → Prop) : Prop :=
  ((-2147483648 : Int) ≤ y1 + y0 ∧ y1 + y0 ≤ (2147483647 : Int)) ∧ (∀ x2_1 : Int, x2_1 = y1 + y0 → (hK h x0 = 11 ∧ (((-2147483648 : Int) ≤ 3 + x3 ∧ 3 + x3 ≤ (2147483647 : Int)) ∧ ((hK h (hR h x0 14) = 12 ∧ (0 : Int) ≤ 3 + x3 ∧ 3 + x3 < hL h (hR h x0 14)) ∧ (∀ x1_2 : Int, x1_2 = zOr x1 (zShl 1 (hI h (hR h x0 14) (3 + x3))) → (((-2147483648 : Int) ≤ x3 + 1 ∧ x3 + 1 ≤ (2147483647 : Int)) ∧ (P6 x1_2 x2_1 (x3 + 1) h)))))))
theorem GJ_X12_unlikeOnes_37 {P6 : Int → Int → Int → Hp → Prop} (x0 : Nat) (x1 : Int) (x3 : Int) (y0 : Int) (y1 : Int) (h : Hp) (Q : Int → Hp → Prop) (hP6 : ∀ (m1 : Int) (m2 : Int) (m3 : Int) (h : Hp), P6 m1 m2 m3 h → Go i_X12_unlikeOnes 6 [(0, .inr (.inr x0)), (1, .inl m1), (2, .inl m2), (3, .inl m3)] [] h (qI Q)) (hV : J_X12_unlikeOnes_37 P6 x0 x1 x3 y0 y1 h Q) : Go i_X12_unlikeOnes 37 [(0, .inr (.inr x0)), (1, .inl x1), (3, .inl x3)] [.inl y0, .inl y1] h (qI Q) := by
  unfold J_X12_unlikeOnes_37 at hV
  obtain ⟨o, hV⟩ := hV
  refine s_iadd d_X12_unlikeOnes_37 o ?_
  refine s_nmI (fun x2_1 ex2_1 => ?_)
  have hV := hV x2_1 ex2_1
  refine s_istore_n (lv' := [(2, .inl x2_1), (0, .inr (.inr x0)), (1, .inl x1), (3, .inl x3)]) d_X12_unlikeOnes_38 rfl (Nat.le_of_ble_eq_true rfl) rfl ?_
  refine s_iload_n d_X12_unlikeOnes_39 rfl (ma 2 rfl) ?_
  refine s_iconst d_X12_unlikeOnes_40 (okn rfl) ?_
  refine s_aload_n d_X12_unlikeOnes_41 rfl (ma 1 rfl) ?_
  obtain ⟨o, hV⟩ := hV
  refine f_RX12_32g rfl d_X12_unlikeOnes_42 o ?_
  refine s_iconst d_X12_unlikeOnes_45 (okn rfl) ?_
  refine s_iload_n d_X12_unlikeOnes_46 rfl (ma 3 rfl) ?_
  obtain ⟨o, hV⟩ := hV
  refine s_iadd d_X12_unlikeOnes_47 o ?_
  obtain ⟨o, hV⟩ := hV
  refine s_iald d_X12_unlikeOnes_48 o.1 o.2.1 o.2.2 ?_
  refine s_ishl d_X12_unlikeOnes_49 ?_
  refine s_ior d_X12_unlikeOnes_50 ?_
  refine s_nmI (fun x1_2 ex1_2 => ?_)
  have hV := hV x1_2 ex1_2
  refine s_istore_n (lv' := [(1, .inl x1_2), (2, .inl x2_1), (0, .inr (.inr x0)), (3, .inl x3)]) d_X12_unlikeOnes_51 rfl (Nat.le_of_ble_eq_true rfl) rfl ?_
  obtain ⟨o, hV⟩ := hV
  refine s_iinc (lv' := [(3, .inl (x3 + 1)), (1, .inl x1_2), (2, .inl x2_1), (0, .inr (.inr x0))]) d_X12_unlikeOnes_52 (ma 3 rfl) o (Nat.le_of_ble_eq_true rfl) rfl ?_
  refine s_goto (tgt := 6) d_X12_unlikeOnes_55 (by decide) ?_
  refine s_pick (lv' := [(0, .inr (.inr x0)), (1, .inl x1_2), (2, .inl x2_1), (3, .inl (x3 + 1))]) [3, 1, 2, 0] rfl ?_
  exact hP6 _ _ _ _ hV
def BLp_X12_unlikeOnes_6 (x0 : Nat) (P6 : Int → Int → Int → Hp → Prop) (x1 : Int) (x2 : Int) (x3 : Int) (h : Hp) (Q : Int → Hp → Prop) : Prop :=
  hK h x0 = 11 ∧ ((hK h (hR h x0 14) = 12 ∧ (0 : Int) ≤ 0 ∧ 0 < hL h (hR h x0 14)) ∧ ((hI h (hR h x0 14) 0 ≤ x3 → (Q x2 h)) ∧ (¬ hI h (hR h x0 14) 0 ≤ x3 → (hK h x0 = 11 ∧ (((-2147483648 : Int) ≤ 3 + x3 ∧ 3 + x3 ≤ (2147483647 : Int)) ∧ ((hK h (hR h x0 14) = 12 ∧ (0 : Int) ≤ 3 + x3 ∧ 3 + x3 < hL h (hR h x0 14)) ∧ (C_X12_has x1 (hI h (hR h x0 14) (3 + x3)) h (fun r2 h1 => ((r2 = 0 → (J_X12_unlikeOnes_37 P6 x0 x1 x3 1 x2 h1 Q)) ∧ (¬ r2 = 0 → (J_X12_unlikeOnes_37 P6 x0 x1 x3 0 x2 h1 Q)))))))))))
def Lp_X12_unlikeOnes_6 (x0 : Nat) (x1 : Int) (x2 : Int) (x3 : Int) (h : Hp) (Q : Int → Hp → Prop) : Prop := ∀ P6 : Int → Int → Int → Hp → Prop, (∀ (x1 : Int) (x2 : Int) (x3 : Int) (h : Hp), BLp_X12_unlikeOnes_6 x0 P6 x1 x2 x3 h Q → P6 x1 x2 x3 h) → P6 x1 x2 x3 h
theorem Lp_X12_unlikeOnes_6_ind {x0 : Nat} {Q : Int → Hp → Prop} (I : Int → Int → Int → Hp → Prop) (μ : Int → Int → Int → Hp → Nat) (hs : ∀ (P6 : Int → Int → Int → Hp → Prop) (x1 : Int) (x2 : Int) (x3 : Int) (h : Hp), I x1 x2 x3 h → (∀ (x1' : Int) (x2' : Int) (x3' : Int) (h' : Hp), I x1' x2' x3' h' → μ x1' x2' x3' h' < μ x1 x2 x3 h → P6 x1' x2' x3' h') → BLp_X12_unlikeOnes_6 x0 P6 x1 x2 x3 h Q) : ∀ (x1 : Int) (x2 : Int) (x3 : Int) (h : Hp), I x1 x2 x3 h → Lp_X12_unlikeOnes_6 x0 x1 x2 x3 h Q := by
  intro x1 x2 x3 h hI P6 hP
  have key : ∀ (n : Nat) (x1 : Int) (x2 : Int) (x3 : Int) (h : Hp), I x1 x2 x3 h → μ x1 x2 x3 h < n → P6 x1 x2 x3 h := by
    intro n
    induction n with
    | zero => intro x1 x2 x3 h _ hl; exact absurd hl (Nat.not_lt_zero _)
    | succ n ih => intro x1 x2 x3 h hi hl; exact hP x1 x2 x3 h (hs P6 x1 x2 x3 h hi (fun x1 x2 x3 h' hi' hl' => ih x1 x2 x3 h' hi' (by omega)))
  exact key _ x1 x2 x3 h hI (Nat.lt_succ_self _)
theorem GLp_X12_unlikeOnes_6 (x0 : Nat) (x1 : Int) (x2 : Int) (x3 : Int) (h : Hp) (Q : Int → Hp → Prop) (hV : Lp_X12_unlikeOnes_6 x0 x1 x2 x3 h Q) : Go i_X12_unlikeOnes 6 [(0, .inr (.inr x0)), (1, .inl x1), (2, .inl x2), (3, .inl x3)] [] h (qI Q) := by
  refine hV (fun x1 x2 x3 h => Go i_X12_unlikeOnes 6 [(0, .inr (.inr x0)), (1, .inl x1), (2, .inl x2), (3, .inl x3)] [] h (qI Q)) (fun x1 x2 x3 h hV => ?_)
  unfold BLp_X12_unlikeOnes_6 at hV
  have hP6 : ∀ (x1 : Int) (x2 : Int) (x3 : Int) (h : Hp), Go i_X12_unlikeOnes 6 [(0, .inr (.inr x0)), (1, .inl x1), (2, .inl x2), (3, .inl x3)] [] h (qI Q) → Go i_X12_unlikeOnes 6 [(0, .inr (.inr x0)), (1, .inl x1), (2, .inl x2), (3, .inl x3)] [] h (qI Q) := fun _ _ _ h z => z
  refine s_iload_n d_X12_unlikeOnes_6 rfl (ma 3 rfl) ?_
  refine s_aload_n d_X12_unlikeOnes_7 rfl (ma 0 rfl) ?_
  obtain ⟨o, hV⟩ := hV
  refine f_RX12_32g rfl d_X12_unlikeOnes_8 o ?_
  refine s_iconst d_X12_unlikeOnes_11 (okn rfl) ?_
  obtain ⟨o, hV⟩ := hV
  refine s_iald d_X12_unlikeOnes_12 o.1 o.2.1 o.2.2 ?_
  refine s_icmp_ge (tgt := 58) d_X12_unlikeOnes_13 (by decide) (fun c => ?_) (fun c => ?_)
  · have hV := hV.1 c
    refine s_iload_n d_X12_unlikeOnes_58 rfl (ma 2 rfl) ?_
    exact s_iret d_X12_unlikeOnes_59 rfl rfl ⟨_, rfl, hV⟩
  · have hV := hV.2 c
    refine s_iload_n d_X12_unlikeOnes_16 rfl (ma 2 rfl) ?_
    refine s_iload_n d_X12_unlikeOnes_17 rfl (ma 1 rfl) ?_
    refine s_aload_n d_X12_unlikeOnes_18 rfl (ma 0 rfl) ?_
    obtain ⟨o, hV⟩ := hV
    refine f_RX12_32g rfl d_X12_unlikeOnes_19 o ?_
    refine s_iconst d_X12_unlikeOnes_22 (okn rfl) ?_
    refine s_iload_n d_X12_unlikeOnes_23 rfl (ma 3 rfl) ?_
    obtain ⟨o, hV⟩ := hV
    refine s_iadd d_X12_unlikeOnes_24 o ?_
    obtain ⟨o, hV⟩ := hV
    refine s_iald d_X12_unlikeOnes_25 o.1 o.2.1 o.2.2 ?_
    refine v_RX12_152 rfl (Nat.le_of_ble_eq_true rfl) d_X12_unlikeOnes_26 (Nat.le_of_ble_eq_true rfl) hV (fun r2 h1 hV => ?_)
    refine s_if_eq (tgt := 36) d_X12_unlikeOnes_29 (by decide) (fun c => ?_) (fun c => ?_)
    · have hV := hV.1 c
      refine s_iconst d_X12_unlikeOnes_36 (okn rfl) ?_
      refine s_pick (lv' := [(0, .inr (.inr x0)), (1, .inl x1), (3, .inl x3)]) [0, 1, 3] rfl ?_
      exact GJ_X12_unlikeOnes_37 _ _ _ _ _ _ _ (by intros; apply hP6; assumption) hV
    · have hV := hV.2 c
      refine s_iconst d_X12_unlikeOnes_32 (okn rfl) ?_
      refine s_goto (tgt := 37) d_X12_unlikeOnes_33 (by decide) ?_
      refine s_pick (lv' := [(0, .inr (.inr x0)), (1, .inl x1), (3, .inl x3)]) [0, 1, 3] rfl ?_
      exact GJ_X12_unlikeOnes_37 _ _ _ _ _ _ _ (by intros; apply hP6; assumption) hV
def V_X12_unlikeOnes (x0 : Nat) (h : Hp) (Q : Int → Hp → Prop) : Prop :=
  Lp_X12_unlikeOnes_6 x0 0 0 0 h Q
theorem G_X12_unlikeOnes {x0 : Nat} (h : Hp) (Q : Int → Hp → Prop) (hV : V_X12_unlikeOnes x0 h Q) : C_X12_unlikeOnes x0 h Q := by
  unfold V_X12_unlikeOnes at hV
  show Go i_X12_unlikeOnes 0 [(0, .inr (.inr x0))] [] h (qI Q)
  refine s_iconst d_X12_unlikeOnes_0 (okn rfl) ?_
  refine s_istore_n (lv' := [(1, .inl 0), (0, .inr (.inr x0))]) d_X12_unlikeOnes_1 rfl (Nat.le_of_ble_eq_true rfl) rfl ?_
  refine s_iconst d_X12_unlikeOnes_2 (okn rfl) ?_
  refine s_istore_n (lv' := [(2, .inl 0), (1, .inl 0), (0, .inr (.inr x0))]) d_X12_unlikeOnes_3 rfl (Nat.le_of_ble_eq_true rfl) rfl ?_
  refine s_iconst d_X12_unlikeOnes_4 (okn rfl) ?_
  refine s_istore_n (lv' := [(3, .inl 0), (2, .inl 0), (1, .inl 0), (0, .inr (.inr x0))]) d_X12_unlikeOnes_5 rfl (Nat.le_of_ble_eq_true rfl) rfl ?_
  refine s_pick (lv' := [(0, .inr (.inr x0)), (1, .inl 0), (2, .inl 0), (3, .inl 0)]) [3, 2, 1, 0] rfl ?_
  exact GLp_X12_unlikeOnes_6 _ _ _ _ _ _ hV

theorem d_X12_stands_0 : decode i_X12_stands.2.1 0 = .ok (.iload_n 2, 1) := by decide +kernel
theorem d_X12_stands_1 : decode i_X12_stands.2.1 1 = .ok (.aload_n 0, 1) := by decide +kernel
theorem d_X12_stands_2 : decode i_X12_stands.2.1 2 = .ok (.getfield 26, 3) := by decide +kernel
theorem d_X12_stands_5 : decode i_X12_stands.2.1 5 = .ok (.iload_n 1, 1) := by decide +kernel
theorem d_X12_stands_6 : decode i_X12_stands.2.1 6 = .ok (.iaload, 1) := by decide +kernel
theorem d_X12_stands_7 : decode i_X12_stands.2.1 7 = .ok (.iadd, 1) := by decide +kernel
theorem d_X12_stands_8 : decode i_X12_stands.2.1 8 = .ok (.aload_n 0, 1) := by decide +kernel
theorem d_X12_stands_9 : decode i_X12_stands.2.1 9 = .ok (.getfield 32, 3) := by decide +kernel
theorem d_X12_stands_12 : decode i_X12_stands.2.1 12 = .ok (.iconst 0, 1) := by decide +kernel
theorem d_X12_stands_13 : decode i_X12_stands.2.1 13 = .ok (.iaload, 1) := by decide +kernel
theorem d_X12_stands_14 : decode i_X12_stands.2.1 14 = .ok (.if_icmp .gt 7, 3) := by decide +kernel
theorem d_X12_stands_17 : decode i_X12_stands.2.1 17 = .ok (.iconst 1, 1) := by decide +kernel
theorem d_X12_stands_18 : decode i_X12_stands.2.1 18 = .ok (.goto 4, 3) := by decide +kernel
theorem d_X12_stands_21 : decode i_X12_stands.2.1 21 = .ok (.iconst 0, 1) := by decide +kernel
theorem d_X12_stands_22 : decode i_X12_stands.2.1 22 = .ok (.istore_n 3, 1) := by decide +kernel
theorem d_X12_stands_23 : decode i_X12_stands.2.1 23 = .ok (.iconst 0, 1) := by decide +kernel
theorem d_X12_stands_24 : decode i_X12_stands.2.1 24 = .ok (.istore 4, 2) := by decide +kernel
theorem d_X12_stands_26 : decode i_X12_stands.2.1 26 = .ok (.iload 4, 2) := by decide +kernel
theorem d_X12_stands_28 : decode i_X12_stands.2.1 28 = .ok (.aload_n 0, 1) := by decide +kernel
theorem d_X12_stands_29 : decode i_X12_stands.2.1 29 = .ok (.getfield 26, 3) := by decide +kernel
theorem d_X12_stands_32 : decode i_X12_stands.2.1 32 = .ok (.iload_n 1, 1) := by decide +kernel
theorem d_X12_stands_33 : decode i_X12_stands.2.1 33 = .ok (.iaload, 1) := by decide +kernel
theorem d_X12_stands_34 : decode i_X12_stands.2.1 34 = .ok (.if_icmp .ge 45, 3) := by decide +kernel
theorem d_X12_stands_37 : decode i_X12_stands.2.1 37 = .ok (.iload_n 3, 1) := by decide +kernel
theorem d_X12_stands_38 : decode i_X12_stands.2.1 38 = .ok (.ifCond .eq 41, 3) := by decide +kernel
theorem d_X12_stands_41 : decode i_X12_stands.2.1 41 = .ok (.aload_n 0, 1) := by decide +kernel
theorem d_X12_stands_42 : decode i_X12_stands.2.1 42 = .ok (.getfield 32, 3) := by decide +kernel
theorem d_X12_stands_45 : decode i_X12_stands.2.1 45 = .ok (.iconst 3, 1) := by decide +kernel
theorem d_X12_stands_46 : decode i_X12_stands.2.1 46 = .ok (.iload_n 2, 1) := by decide +kernel
theorem d_X12_stands_47 : decode i_X12_stands.2.1 47 = .ok (.iadd, 1) := by decide +kernel
theorem d_X12_stands_48 : decode i_X12_stands.2.1 48 = .ok (.iload 4, 2) := by decide +kernel
theorem d_X12_stands_50 : decode i_X12_stands.2.1 50 = .ok (.iadd, 1) := by decide +kernel
theorem d_X12_stands_51 : decode i_X12_stands.2.1 51 = .ok (.iaload, 1) := by decide +kernel
theorem d_X12_stands_52 : decode i_X12_stands.2.1 52 = .ok (.aload_n 0, 1) := by decide +kernel
theorem d_X12_stands_53 : decode i_X12_stands.2.1 53 = .ok (.getfield 29, 3) := by decide +kernel
theorem d_X12_stands_56 : decode i_X12_stands.2.1 56 = .ok (.bipush 8, 2) := by decide +kernel
theorem d_X12_stands_58 : decode i_X12_stands.2.1 58 = .ok (.iload_n 1, 1) := by decide +kernel
theorem d_X12_stands_59 : decode i_X12_stands.2.1 59 = .ok (.imul, 1) := by decide +kernel
theorem d_X12_stands_60 : decode i_X12_stands.2.1 60 = .ok (.iload 4, 2) := by decide +kernel
theorem d_X12_stands_62 : decode i_X12_stands.2.1 62 = .ok (.iadd, 1) := by decide +kernel
theorem d_X12_stands_63 : decode i_X12_stands.2.1 63 = .ok (.iaload, 1) := by decide +kernel
theorem d_X12_stands_64 : decode i_X12_stands.2.1 64 = .ok (.if_icmp .ne 7, 3) := by decide +kernel
theorem d_X12_stands_67 : decode i_X12_stands.2.1 67 = .ok (.iconst 1, 1) := by decide +kernel
theorem d_X12_stands_68 : decode i_X12_stands.2.1 68 = .ok (.goto 4, 3) := by decide +kernel
theorem d_X12_stands_71 : decode i_X12_stands.2.1 71 = .ok (.iconst 0, 1) := by decide +kernel
theorem d_X12_stands_72 : decode i_X12_stands.2.1 72 = .ok (.istore_n 3, 1) := by decide +kernel
theorem d_X12_stands_73 : decode i_X12_stands.2.1 73 = .ok (.iinc 4 1, 3) := by decide +kernel
theorem d_X12_stands_76 : decode i_X12_stands.2.1 76 = .ok (.goto (-50), 3) := by decide +kernel
theorem d_X12_stands_79 : decode i_X12_stands.2.1 79 = .ok (.iload_n 3, 1) := by decide +kernel
theorem d_X12_stands_80 : decode i_X12_stands.2.1 80 = .ok (.ireturn, 1) := by decide +kernel
def BLp_X12_stands_26 (x0 : Nat) (x1 : Int) (x2 : Int) (P26 : Int → Int → Hp → Prop) (x3 : Int) (x4 : Int) (h : Hp) (Q : Int → Hp → Prop) : Prop :=
  hK h x0 = 11 ∧ ((hK h (hR h x0 12) = 12 ∧ (0 : Int) ≤ x1 ∧ x1 < hL h (hR h x0 12)) ∧ ((hI h (hR h x0 12) x1 ≤ x4 → (((x3 : Int) = 0 ∨ (x3 : Int) = 1) ∧ Q x3 h)) ∧ (¬ hI h (hR h x0 12) x1 ≤ x4 → ((x3 = 0 → (((x3 : Int) = 0 ∨ (x3 : Int) = 1) ∧ Q x3 h)) ∧ (¬ x3 = 0 → (hK h x0 = 11 ∧ (((-2147483648 : Int) ≤ 3 + x2 ∧ 3 + x2 ≤ (2147483647 : Int)) ∧ (((-2147483648 : Int) ≤ (3 + x2) + x4 ∧ (3 + x2) + x4 ≤ (2147483647 : Int)) ∧ ((hK h (hR h x0 14) = 12 ∧ (0 : Int) ≤ (3 + x2) + x4 ∧ (3 + x2) + x4 < hL h (hR h x0 14)) ∧ (hK h x0 = 11 ∧ (((-2147483648 : Int) ≤ 8 * x1 ∧ 8 * x1 ≤ (2147483647 : Int)) ∧ (((-2147483648 : Int) ≤ (8 * x1) + x4 ∧ (8 * x1) + x4 ≤ (2147483647 : Int)) ∧ ((hK h (hR h x0 13) = 12 ∧ (0 : Int) ≤ (8 * x1) + x4 ∧ (8 * x1) + x4 < hL h (hR h x0 13)) ∧ ((hI h (hR h x0 14) ((3 + x2) + x4) ≠ hI h (hR h x0 13) ((8 * x1) + x4) → (((-2147483648 : Int) ≤ x4 + 1 ∧ x4 + 1 ≤ (2147483647 : Int)) ∧ (P26 0 (x4 + 1) h))) ∧ (hI h (hR h x0 14) ((3 + x2) + x4) = hI h (hR h x0 13) ((8 * x1) + x4) → (((-2147483648 : Int) ≤ x4 + 1 ∧ x4 + 1 ≤ (2147483647 : Int)) ∧ (P26 1 (x4 + 1) h)))))))))))))))))
def Lp_X12_stands_26 (x0 : Nat) (x1 : Int) (x2 : Int) (x3 : Int) (x4 : Int) (h : Hp) (Q : Int → Hp → Prop) : Prop := ∀ P26 : Int → Int → Hp → Prop, (∀ (x3 : Int) (x4 : Int) (h : Hp), BLp_X12_stands_26 x0 x1 x2 P26 x3 x4 h Q → P26 x3 x4 h) → P26 x3 x4 h
theorem Lp_X12_stands_26_ind {x0 : Nat} {x1 : Int} {x2 : Int} {Q : Int → Hp → Prop} (I : Int → Int → Hp → Prop) (μ : Int → Int → Hp → Nat) (hs : ∀ (P26 : Int → Int → Hp → Prop) (x3 : Int) (x4 : Int) (h : Hp), I x3 x4 h → (∀ (x3' : Int) (x4' : Int) (h' : Hp), I x3' x4' h' → μ x3' x4' h' < μ x3 x4 h → P26 x3' x4' h') → BLp_X12_stands_26 x0 x1 x2 P26 x3 x4 h Q) : ∀ (x3 : Int) (x4 : Int) (h : Hp), I x3 x4 h → Lp_X12_stands_26 x0 x1 x2 x3 x4 h Q := by
  intro x3 x4 h hI P26 hP
  have key : ∀ (n : Nat) (x3 : Int) (x4 : Int) (h : Hp), I x3 x4 h → μ x3 x4 h < n → P26 x3 x4 h := by
    intro n
    induction n with
    | zero => intro x3 x4 h _ hl; exact absurd hl (Nat.not_lt_zero _)
    | succ n ih => intro x3 x4 h hi hl; exact hP x3 x4 h (hs P26 x3 x4 h hi (fun x3 x4 h' hi' hl' => ih x3 x4 h' hi' (by omega)))
  exact key _ x3 x4 h hI (Nat.lt_succ_self _)
theorem GLp_X12_stands_26 (x0 : Nat) (x1 : Int) (x2 : Int) (x3 : Int) (x4 : Int) (h : Hp) (Q : Int → Hp → Prop) (hV : Lp_X12_stands_26 x0 x1 x2 x3 x4 h Q) : Go i_X12_stands 26 [(0, .inr (.inr x0)), (1, .inl x1), (2, .inl x2), (3, .inl x3), (4, .inl x4)] [] h (qI Q) := by
  refine hV (fun x3 x4 h => Go i_X12_stands 26 [(0, .inr (.inr x0)), (1, .inl x1), (2, .inl x2), (3, .inl x3), (4, .inl x4)] [] h (qI Q)) (fun x3 x4 h hV => ?_)
  unfold BLp_X12_stands_26 at hV
  have hP26 : ∀ (x3 : Int) (x4 : Int) (h : Hp), Go i_X12_stands 26 [(0, .inr (.inr x0)), (1, .inl x1), (2, .inl x2), (3, .inl x3), (4, .inl x4)] [] h (qI Q) → Go i_X12_stands 26 [(0, .inr (.inr x0)), (1, .inl x1), (2, .inl x2), (3, .inl x3), (4, .inl x4)] [] h (qI Q) := fun _ _ h z => z
  refine s_iload d_X12_stands_26 (ma 4 rfl) ?_
  refine s_aload_n d_X12_stands_28 rfl (ma 0 rfl) ?_
  obtain ⟨o, hV⟩ := hV
  refine f_RX12_26g rfl d_X12_stands_29 o ?_
  refine s_iload_n d_X12_stands_32 rfl (ma 1 rfl) ?_
  obtain ⟨o, hV⟩ := hV
  refine s_iald d_X12_stands_33 o.1 o.2.1 o.2.2 ?_
  refine s_icmp_ge (tgt := 79) d_X12_stands_34 (by decide) (fun c => ?_) (fun c => ?_)
  · have hV := hV.1 c
    refine s_iload_n d_X12_stands_79 rfl (ma 3 rfl) ?_
    exact s_iret d_X12_stands_80 rfl (nar_z hV.1) ⟨_, rfl, hV.2⟩
  · have hV := hV.2 c
    refine s_iload_n d_X12_stands_37 rfl (ma 3 rfl) ?_
    refine s_if_eq (tgt := 79) d_X12_stands_38 (by decide) (fun c => ?_) (fun c => ?_)
    · have hV := hV.1 c
      refine s_iload_n d_X12_stands_79 rfl (ma 3 rfl) ?_
      exact s_iret d_X12_stands_80 rfl (nar_z hV.1) ⟨_, rfl, hV.2⟩
    · have hV := hV.2 c
      refine s_aload_n d_X12_stands_41 rfl (ma 0 rfl) ?_
      obtain ⟨o, hV⟩ := hV
      refine f_RX12_32g rfl d_X12_stands_42 o ?_
      refine s_iconst d_X12_stands_45 (okn rfl) ?_
      refine s_iload_n d_X12_stands_46 rfl (ma 2 rfl) ?_
      obtain ⟨o, hV⟩ := hV
      refine s_iadd d_X12_stands_47 o ?_
      refine s_iload d_X12_stands_48 (ma 4 rfl) ?_
      obtain ⟨o, hV⟩ := hV
      refine s_iadd d_X12_stands_50 o ?_
      obtain ⟨o, hV⟩ := hV
      refine s_iald d_X12_stands_51 o.1 o.2.1 o.2.2 ?_
      refine s_aload_n d_X12_stands_52 rfl (ma 0 rfl) ?_
      obtain ⟨o, hV⟩ := hV
      refine f_RX12_29g rfl d_X12_stands_53 o ?_
      refine s_bipush d_X12_stands_56 (by decide) (okn rfl) ?_
      refine s_iload_n d_X12_stands_58 rfl (ma 1 rfl) ?_
      obtain ⟨o, hV⟩ := hV
      refine s_imul d_X12_stands_59 o ?_
      refine s_iload d_X12_stands_60 (ma 4 rfl) ?_
      obtain ⟨o, hV⟩ := hV
      refine s_iadd d_X12_stands_62 o ?_
      obtain ⟨o, hV⟩ := hV
      refine s_iald d_X12_stands_63 o.1 o.2.1 o.2.2 ?_
      refine s_icmp_ne (tgt := 71) d_X12_stands_64 (by decide) (fun c => ?_) (fun c => ?_)
      · have hV := hV.1 c
        refine s_iconst d_X12_stands_71 (okn rfl) ?_
        refine s_istore_n (lv' := [(3, .inl 0), (0, .inr (.inr x0)), (1, .inl x1), (2, .inl x2), (4, .inl x4)]) d_X12_stands_72 rfl (Nat.le_of_ble_eq_true rfl) rfl ?_
        obtain ⟨o, hV⟩ := hV
        refine s_iinc (lv' := [(4, .inl (x4 + 1)), (3, .inl 0), (0, .inr (.inr x0)), (1, .inl x1), (2, .inl x2)]) d_X12_stands_73 (ma 4 rfl) o (Nat.le_of_ble_eq_true rfl) rfl ?_
        refine s_goto (tgt := 26) d_X12_stands_76 (by decide) ?_
        refine s_pick (lv' := [(0, .inr (.inr x0)), (1, .inl x1), (2, .inl x2), (3, .inl 0), (4, .inl (x4 + 1))]) [2, 3, 4, 1, 0] rfl ?_
        exact hP26 _ _ _ hV
      · have hV := hV.2 c
        refine s_iconst d_X12_stands_67 (okn rfl) ?_
        refine s_goto (tgt := 72) d_X12_stands_68 (by decide) ?_
        refine s_istore_n (lv' := [(3, .inl 1), (0, .inr (.inr x0)), (1, .inl x1), (2, .inl x2), (4, .inl x4)]) d_X12_stands_72 rfl (Nat.le_of_ble_eq_true rfl) rfl ?_
        obtain ⟨o, hV⟩ := hV
        refine s_iinc (lv' := [(4, .inl (x4 + 1)), (3, .inl 1), (0, .inr (.inr x0)), (1, .inl x1), (2, .inl x2)]) d_X12_stands_73 (ma 4 rfl) o (Nat.le_of_ble_eq_true rfl) rfl ?_
        refine s_goto (tgt := 26) d_X12_stands_76 (by decide) ?_
        refine s_pick (lv' := [(0, .inr (.inr x0)), (1, .inl x1), (2, .inl x2), (3, .inl 1), (4, .inl (x4 + 1))]) [2, 3, 4, 1, 0] rfl ?_
        exact hP26 _ _ _ hV
def V_X12_stands (x0 : Nat) (x1 : Int) (x2 : Int) (h : Hp) (Q : Int → Hp → Prop) : Prop :=
  hK h x0 = 11 ∧ ((hK h (hR h x0 12) = 12 ∧ (0 : Int) ≤ x1 ∧ x1 < hL h (hR h x0 12)) ∧ (((-2147483648 : Int) ≤ x2 + (hI h (hR h x0 12) x1) ∧ x2 + (hI h (hR h x0 12) x1) ≤ (2147483647 : Int)) ∧ (hK h x0 = 11 ∧ ((hK h (hR h x0 14) = 12 ∧ (0 : Int) ≤ 0 ∧ 0 < hL h (hR h x0 14)) ∧ ((hI h (hR h x0 14) 0 < x2 + (hI h (hR h x0 12) x1) → (Lp_X12_stands_26 x0 x1 x2 0 0 h Q)) ∧ (¬ hI h (hR h x0 14) 0 < x2 + (hI h (hR h x0 12) x1) → (Lp_X12_stands_26 x0 x1 x2 1 0 h Q)))))))
theorem G_X12_stands {x0 : Nat} {x1 : Int} {x2 : Int} (h : Hp) (Q : Int → Hp → Prop) (hV : V_X12_stands x0 x1 x2 h Q) : C_X12_stands x0 x1 x2 h Q := by
  unfold V_X12_stands at hV
  show Go i_X12_stands 0 [(0, .inr (.inr x0)), (1, .inl x1), (2, .inl x2)] [] h (qI Q)
  refine s_iload_n d_X12_stands_0 rfl (ma 2 rfl) ?_
  refine s_aload_n d_X12_stands_1 rfl (ma 0 rfl) ?_
  obtain ⟨o, hV⟩ := hV
  refine f_RX12_26g rfl d_X12_stands_2 o ?_
  refine s_iload_n d_X12_stands_5 rfl (ma 1 rfl) ?_
  obtain ⟨o, hV⟩ := hV
  refine s_iald d_X12_stands_6 o.1 o.2.1 o.2.2 ?_
  obtain ⟨o, hV⟩ := hV
  refine s_iadd d_X12_stands_7 o ?_
  refine s_aload_n d_X12_stands_8 rfl (ma 0 rfl) ?_
  obtain ⟨o, hV⟩ := hV
  refine f_RX12_32g rfl d_X12_stands_9 o ?_
  refine s_iconst d_X12_stands_12 (okn rfl) ?_
  obtain ⟨o, hV⟩ := hV
  refine s_iald d_X12_stands_13 o.1 o.2.1 o.2.2 ?_
  refine s_icmp_gt (tgt := 21) d_X12_stands_14 (by decide) (fun c => ?_) (fun c => ?_)
  · have hV := hV.1 c
    refine s_iconst d_X12_stands_21 (okn rfl) ?_
    refine s_istore_n (lv' := [(3, .inl 0), (0, .inr (.inr x0)), (1, .inl x1), (2, .inl x2)]) d_X12_stands_22 rfl (Nat.le_of_ble_eq_true rfl) rfl ?_
    refine s_iconst d_X12_stands_23 (okn rfl) ?_
    refine s_istore (lv' := [(4, .inl 0), (3, .inl 0), (0, .inr (.inr x0)), (1, .inl x1), (2, .inl x2)]) d_X12_stands_24 (Nat.le_of_ble_eq_true rfl) rfl ?_
    refine s_pick (lv' := [(0, .inr (.inr x0)), (1, .inl x1), (2, .inl x2), (3, .inl 0), (4, .inl 0)]) [2, 3, 4, 1, 0] rfl ?_
    exact GLp_X12_stands_26 _ _ _ _ _ _ _ hV
  · have hV := hV.2 c
    refine s_iconst d_X12_stands_17 (okn rfl) ?_
    refine s_goto (tgt := 22) d_X12_stands_18 (by decide) ?_
    refine s_istore_n (lv' := [(3, .inl 1), (0, .inr (.inr x0)), (1, .inl x1), (2, .inl x2)]) d_X12_stands_22 rfl (Nat.le_of_ble_eq_true rfl) rfl ?_
    refine s_iconst d_X12_stands_23 (okn rfl) ?_
    refine s_istore (lv' := [(4, .inl 0), (3, .inl 1), (0, .inr (.inr x0)), (1, .inl x1), (2, .inl x2)]) d_X12_stands_24 (Nat.le_of_ble_eq_true rfl) rfl ?_
    refine s_pick (lv' := [(0, .inr (.inr x0)), (1, .inl x1), (2, .inl x2), (3, .inl 1), (4, .inl 0)]) [2, 3, 4, 1, 0] rfl ?_
    exact GLp_X12_stands_26 _ _ _ _ _ _ _ hV

theorem d_X12_waysToTell_0 : decode i_X12_waysToTell.2.1 0 = .ok (.aload_n 0, 1) := by decide +kernel
theorem d_X12_waysToTell_1 : decode i_X12_waysToTell.2.1 1 = .ok (.getfield 32, 3) := by decide +kernel
theorem d_X12_waysToTell_4 : decode i_X12_waysToTell.2.1 4 = .ok (.iconst 0, 1) := by decide +kernel
theorem d_X12_waysToTell_5 : decode i_X12_waysToTell.2.1 5 = .ok (.iaload, 1) := by decide +kernel
theorem d_X12_waysToTell_6 : decode i_X12_waysToTell.2.1 6 = .ok (.istore_n 1, 1) := by decide +kernel
theorem d_X12_waysToTell_7 : decode i_X12_waysToTell.2.1 7 = .ok (.aload_n 0, 1) := by decide +kernel
theorem d_X12_waysToTell_8 : decode i_X12_waysToTell.2.1 8 = .ok (.getfield 78, 3) := by decide +kernel
theorem d_X12_waysToTell_11 : decode i_X12_waysToTell.2.1 11 = .ok (.iload_n 1, 1) := by decide +kernel
theorem d_X12_waysToTell_12 : decode i_X12_waysToTell.2.1 12 = .ok (.iconst 1, 1) := by decide +kernel
theorem d_X12_waysToTell_13 : decode i_X12_waysToTell.2.1 13 = .ok (.iastore, 1) := by decide +kernel
theorem d_X12_waysToTell_14 : decode i_X12_waysToTell.2.1 14 = .ok (.iload_n 1, 1) := by decide +kernel
theorem d_X12_waysToTell_15 : decode i_X12_waysToTell.2.1 15 = .ok (.iconst 1, 1) := by decide +kernel
theorem d_X12_waysToTell_16 : decode i_X12_waysToTell.2.1 16 = .ok (.isub, 1) := by decide +kernel
theorem d_X12_waysToTell_17 : decode i_X12_waysToTell.2.1 17 = .ok (.istore_n 2, 1) := by decide +kernel
theorem d_X12_waysToTell_18 : decode i_X12_waysToTell.2.1 18 = .ok (.iload_n 2, 1) := by decide +kernel
theorem d_X12_waysToTell_19 : decode i_X12_waysToTell.2.1 19 = .ok (.ifCond .lt 82, 3) := by decide +kernel
theorem d_X12_waysToTell_22 : decode i_X12_waysToTell.2.1 22 = .ok (.lconst 0, 1) := by decide +kernel
theorem d_X12_waysToTell_23 : decode i_X12_waysToTell.2.1 23 = .ok (.lstore_n 3, 1) := by decide +kernel
theorem d_X12_waysToTell_24 : decode i_X12_waysToTell.2.1 24 = .ok (.iconst 0, 1) := by decide +kernel
theorem d_X12_waysToTell_25 : decode i_X12_waysToTell.2.1 25 = .ok (.istore 5, 2) := by decide +kernel
theorem d_X12_waysToTell_27 : decode i_X12_waysToTell.2.1 27 = .ok (.iload 5, 2) := by decide +kernel
theorem d_X12_waysToTell_29 : decode i_X12_waysToTell.2.1 29 = .ok (.aload_n 0, 1) := by decide +kernel
theorem d_X12_waysToTell_30 : decode i_X12_waysToTell.2.1 30 = .ok (.getfield 140, 3) := by decide +kernel
theorem d_X12_waysToTell_33 : decode i_X12_waysToTell.2.1 33 = .ok (.if_icmp .ge 41, 3) := by decide +kernel
theorem d_X12_waysToTell_36 : decode i_X12_waysToTell.2.1 36 = .ok (.lload_n 3, 1) := by decide +kernel
theorem d_X12_waysToTell_37 : decode i_X12_waysToTell.2.1 37 = .ok (.aload_n 0, 1) := by decide +kernel
theorem d_X12_waysToTell_38 : decode i_X12_waysToTell.2.1 38 = .ok (.iload 5, 2) := by decide +kernel
theorem d_X12_waysToTell_40 : decode i_X12_waysToTell.2.1 40 = .ok (.iload_n 2, 1) := by decide +kernel
theorem d_X12_waysToTell_41 : decode i_X12_waysToTell.2.1 41 = .ok (.invokevirtual 156, 3) := by decide +kernel
theorem d_X12_waysToTell_44 : decode i_X12_waysToTell.2.1 44 = .ok (.ifCond .eq 21, 3) := by decide +kernel
theorem d_X12_waysToTell_47 : decode i_X12_waysToTell.2.1 47 = .ok (.aload_n 0, 1) := by decide +kernel
theorem d_X12_waysToTell_48 : decode i_X12_waysToTell.2.1 48 = .ok (.getfield 78, 3) := by decide +kernel
theorem d_X12_waysToTell_51 : decode i_X12_waysToTell.2.1 51 = .ok (.iload_n 2, 1) := by decide +kernel
theorem d_X12_waysToTell_52 : decode i_X12_waysToTell.2.1 52 = .ok (.aload_n 0, 1) := by decide +kernel
theorem d_X12_waysToTell_53 : decode i_X12_waysToTell.2.1 53 = .ok (.getfield 26, 3) := by decide +kernel
theorem d_X12_waysToTell_56 : decode i_X12_waysToTell.2.1 56 = .ok (.iload 5, 2) := by decide +kernel
theorem d_X12_waysToTell_58 : decode i_X12_waysToTell.2.1 58 = .ok (.iaload, 1) := by decide +kernel
theorem d_X12_waysToTell_59 : decode i_X12_waysToTell.2.1 59 = .ok (.iadd, 1) := by decide +kernel
theorem d_X12_waysToTell_60 : decode i_X12_waysToTell.2.1 60 = .ok (.iaload, 1) := by decide +kernel
theorem d_X12_waysToTell_61 : decode i_X12_waysToTell.2.1 61 = .ok (.i2l, 1) := by decide +kernel
theorem d_X12_waysToTell_62 : decode i_X12_waysToTell.2.1 62 = .ok (.goto 4, 3) := by decide +kernel
theorem d_X12_waysToTell_65 : decode i_X12_waysToTell.2.1 65 = .ok (.lconst 0, 1) := by decide +kernel
theorem d_X12_waysToTell_66 : decode i_X12_waysToTell.2.1 66 = .ok (.ladd, 1) := by decide +kernel
theorem d_X12_waysToTell_67 : decode i_X12_waysToTell.2.1 67 = .ok (.lstore_n 3, 1) := by decide +kernel
theorem d_X12_waysToTell_68 : decode i_X12_waysToTell.2.1 68 = .ok (.iinc 5 1, 3) := by decide +kernel
theorem d_X12_waysToTell_71 : decode i_X12_waysToTell.2.1 71 = .ok (.goto (-44), 3) := by decide +kernel
theorem d_X12_waysToTell_74 : decode i_X12_waysToTell.2.1 74 = .ok (.aload_n 0, 1) := by decide +kernel
theorem d_X12_waysToTell_75 : decode i_X12_waysToTell.2.1 75 = .ok (.getfield 78, 3) := by decide +kernel
theorem d_X12_waysToTell_78 : decode i_X12_waysToTell.2.1 78 = .ok (.iload_n 2, 1) := by decide +kernel
theorem d_X12_waysToTell_79 : decode i_X12_waysToTell.2.1 79 = .ok (.lload_n 3, 1) := by decide +kernel
theorem d_X12_waysToTell_80 : decode i_X12_waysToTell.2.1 80 = .ok (.ldc2_w 159, 3) := by decide +kernel
theorem d_X12_waysToTell_83 : decode i_X12_waysToTell.2.1 83 = .ok (.lcmp, 1) := by decide +kernel
theorem d_X12_waysToTell_84 : decode i_X12_waysToTell.2.1 84 = .ok (.ifCond .le 8, 3) := by decide +kernel
theorem d_X12_waysToTell_87 : decode i_X12_waysToTell.2.1 87 = .ok (.ldc 161, 2) := by decide +kernel
theorem d_X12_waysToTell_89 : decode i_X12_waysToTell.2.1 89 = .ok (.goto 5, 3) := by decide +kernel
theorem d_X12_waysToTell_92 : decode i_X12_waysToTell.2.1 92 = .ok (.lload_n 3, 1) := by decide +kernel
theorem d_X12_waysToTell_93 : decode i_X12_waysToTell.2.1 93 = .ok (.l2i, 1) := by decide +kernel
theorem d_X12_waysToTell_94 : decode i_X12_waysToTell.2.1 94 = .ok (.iastore, 1) := by decide +kernel
theorem d_X12_waysToTell_95 : decode i_X12_waysToTell.2.1 95 = .ok (.iinc 2 (-1), 3) := by decide +kernel
theorem d_X12_waysToTell_98 : decode i_X12_waysToTell.2.1 98 = .ok (.goto (-80), 3) := by decide +kernel
theorem d_X12_waysToTell_101 : decode i_X12_waysToTell.2.1 101 = .ok (.aload_n 0, 1) := by decide +kernel
theorem d_X12_waysToTell_102 : decode i_X12_waysToTell.2.1 102 = .ok (.getfield 78, 3) := by decide +kernel
theorem d_X12_waysToTell_105 : decode i_X12_waysToTell.2.1 105 = .ok (.iconst 0, 1) := by decide +kernel
theorem d_X12_waysToTell_106 : decode i_X12_waysToTell.2.1 106 = .ok (.iaload, 1) := by decide +kernel
theorem d_X12_waysToTell_107 : decode i_X12_waysToTell.2.1 107 = .ok (.ireturn, 1) := by decide +kernel
def BLp_X12_waysToTell_27 (P18 : Int → Hp → Prop) (x0 : Nat) (x2 : Int) (P27 : Int → Int → Hp → Prop) (x3 : Int) (x5 : Int) (h : Hp) (Q : Int → Hp → Prop) : Prop :=
  hK h x0 = 11 ∧ ((hI h x0 11 ≤ x5 → (hK h x0 = 11 ∧ ((zCmp x3 1000000000 ≤ 0 → (((-2147483648 : Int) ≤ x3 ∧ x3 ≤ (2147483647 : Int)) ∧ ((hK h (hR h x0 36) = 12 ∧ (0 : Int) ≤ x2 ∧ x2 < hL h (hR h x0 36)) ∧ ∀ h1 : Hp, h1 = wI h (hR h x0 36) x2 x3 → (((-2147483648 : Int) ≤ x2 + (-1) ∧ x2 + (-1) ≤ (2147483647 : Int)) ∧ (P18 (x2 + (-1)) h1))))) ∧ (¬ zCmp x3 1000000000 ≤ 0 → ((hK h (hR h x0 36) = 12 ∧ (0 : Int) ≤ x2 ∧ x2 < hL h (hR h x0 36)) ∧ ∀ h2 : Hp, h2 = wI h (hR h x0 36) x2 1000000000 → (((-2147483648 : Int) ≤ x2 + (-1) ∧ x2 + (-1) ≤ (2147483647 : Int)) ∧ (P18 (x2 + (-1)) h2))))))) ∧ (¬ hI h x0 11 ≤ x5 → (hK h x0 = 11 ∧ C_X12_stands x0 x5 x2 h (fun r4 h3 => ((r4 = 0 → (((-9223372036854775808 : Int) ≤ x3 + 0 ∧ x3 + 0 ≤ (9223372036854775807 : Int)) ∧ (∀ x3_5 : Int, x3_5 = x3 + 0 → (((-2147483648 : Int) ≤ x5 + 1 ∧ x5 + 1 ≤ (2147483647 : Int)) ∧ (P27 x3_5 (x5 + 1) h3))))) ∧ (¬ r4 = 0 → (hK h3 x0 = 11 ∧ (hK h3 x0 = 11 ∧ ((hK h3 (hR h3 x0 12) = 12 ∧ (0 : Int) ≤ x5 ∧ x5 < hL h3 (hR h3 x0 12)) ∧ (((-2147483648 : Int) ≤ x2 + (hI h3 (hR h3 x0 12) x5) ∧ x2 + (hI h3 (hR h3 x0 12) x5) ≤ (2147483647 : Int)) ∧ ((hK h3 (hR h3 x0 36) = 12 ∧ (0 : Int) ≤ x2 + (hI h3 (hR h3 x0 12) x5) ∧ x2 + (hI h3 (hR h3 x0 12) x5) < hL h3 (hR h3 x0 36)) ∧ (((-9223372036854775808 : Int) ≤ x3 + (hI h3 (hR h3 x0 36) (x2 + (hI h3 (hR h3 x0 12) x5))) ∧ x3 + (hI h3 (hR h3 x0 36) (x2 + (hI h3 (hR h3 x0 12) x5))) ≤ (9223372036854775807 : Int)) ∧ (∀ x3_6 : Int, x3_6 = x3 + (hI h3 (hR h3 x0 36) (x2 + (hI h3 (hR h3 x0 12) x5))) → (((-2147483648 : Int) ≤ x5 + 1 ∧ x5 + 1 ≤ (2147483647 : Int)) ∧ (P27 x3_6 (x5 + 1) h3)))))))))))))))
def Lp_X12_waysToTell_27 (P18 : Int → Hp → Prop) (x0 : Nat) (x2 : Int) (x3 : Int) (x5 : Int) (h : Hp) (Q : Int → Hp → Prop) : Prop := ∀ P27 : Int → Int → Hp → Prop, (∀ (x3 : Int) (x5 : Int) (h : Hp), BLp_X12_waysToTell_27 P18 x0 x2 P27 x3 x5 h Q → P27 x3 x5 h) → P27 x3 x5 h
theorem Lp_X12_waysToTell_27_ind {P18 : Int → Hp → Prop} {x0 : Nat} {x2 : Int} {Q : Int → Hp → Prop} (I : Int → Int → Hp → Prop) (μ : Int → Int → Hp → Nat) (hs : ∀ (P27 : Int → Int → Hp → Prop) (x3 : Int) (x5 : Int) (h : Hp), I x3 x5 h → (∀ (x3' : Int) (x5' : Int) (h' : Hp), I x3' x5' h' → μ x3' x5' h' < μ x3 x5 h → P27 x3' x5' h') → BLp_X12_waysToTell_27 P18 x0 x2 P27 x3 x5 h Q) : ∀ (x3 : Int) (x5 : Int) (h : Hp), I x3 x5 h → Lp_X12_waysToTell_27 P18 x0 x2 x3 x5 h Q := by
  intro x3 x5 h hI P27 hP
  have key : ∀ (n : Nat) (x3 : Int) (x5 : Int) (h : Hp), I x3 x5 h → μ x3 x5 h < n → P27 x3 x5 h := by
    intro n
    induction n with
    | zero => intro x3 x5 h _ hl; exact absurd hl (Nat.not_lt_zero _)
    | succ n ih => intro x3 x5 h hi hl; exact hP x3 x5 h (hs P27 x3 x5 h hi (fun x3 x5 h' hi' hl' => ih x3 x5 h' hi' (by omega)))
  exact key _ x3 x5 h hI (Nat.lt_succ_self _)
theorem GLp_X12_waysToTell_27 {P18 : Int → Hp → Prop} (x0 : Nat) (x2 : Int) (x3 : Int) (x5 : Int) (h : Hp) (Q : Int → Hp → Prop) (hP18 : ∀ (m2 : Int) (h : Hp), P18 m2 h → Go i_X12_waysToTell 18 [(0, .inr (.inr x0)), (2, .inl m2)] [] h (qI Q)) (hV : Lp_X12_waysToTell_27 P18 x0 x2 x3 x5 h Q) : Go i_X12_waysToTell 27 [(0, .inr (.inr x0)), (2, .inl x2), (3, .inr (.inl x3)), (5, .inl x5)] [] h (qI Q) := by
  refine hV (fun x3 x5 h => Go i_X12_waysToTell 27 [(0, .inr (.inr x0)), (2, .inl x2), (3, .inr (.inl x3)), (5, .inl x5)] [] h (qI Q)) (fun x3 x5 h hV => ?_)
  unfold BLp_X12_waysToTell_27 at hV
  have hP27 : ∀ (x3 : Int) (x5 : Int) (h : Hp), Go i_X12_waysToTell 27 [(0, .inr (.inr x0)), (2, .inl x2), (3, .inr (.inl x3)), (5, .inl x5)] [] h (qI Q) → Go i_X12_waysToTell 27 [(0, .inr (.inr x0)), (2, .inl x2), (3, .inr (.inl x3)), (5, .inl x5)] [] h (qI Q) := fun _ _ h z => z
  refine s_iload d_X12_waysToTell_27 (ma 3 rfl) ?_
  refine s_aload_n d_X12_waysToTell_29 rfl (ma 0 rfl) ?_
  obtain ⟨o, hV⟩ := hV
  refine f_RX12_140g rfl d_X12_waysToTell_30 o ?_
  refine s_icmp_ge (tgt := 74) d_X12_waysToTell_33 (by decide) (fun c => ?_) (fun c => ?_)
  · have hV := hV.1 c
    refine s_aload_n d_X12_waysToTell_74 rfl (ma 0 rfl) ?_
    obtain ⟨o, hV⟩ := hV
    refine f_RX12_78g rfl d_X12_waysToTell_75 o ?_
    refine s_iload_n d_X12_waysToTell_78 rfl (ma 1 rfl) ?_
    refine s_lload_n d_X12_waysToTell_79 rfl (ma 2 rfl) ?_
    refine s_ldc2 (n := 1000000000) d_X12_waysToTell_80 k_RX12_159 (by decide) (okln rfl) ?_
    refine s_lcmp d_X12_waysToTell_83 ?_
    refine s_if_le (tgt := 92) d_X12_waysToTell_84 (by decide) (fun c => ?_) (fun c => ?_)
    · have hV := hV.1 c
      refine s_lload_n d_X12_waysToTell_92 rfl (ma 2 rfl) ?_
      obtain ⟨o, hV⟩ := hV
      refine s_l2i d_X12_waysToTell_93 o ?_
      obtain ⟨o, hV⟩ := hV
      refine s_iast d_X12_waysToTell_94 o.1 o.2.1 o.2.2 ?_
      refine s_nmH (fun h1 eh1 => ?_)
      have hV := hV h1 eh1
      obtain ⟨o, hV⟩ := hV
      refine s_iinc (lv' := [(2, .inl (x2 + (-1))), (0, .inr (.inr x0)), (3, .inr (.inl x3)), (5, .inl x5)]) d_X12_waysToTell_95 (ma 1 rfl) o (Nat.le_of_ble_eq_true rfl) rfl ?_
      refine s_goto (tgt := 18) d_X12_waysToTell_98 (by decide) ?_
      refine s_pick (lv' := [(0, .inr (.inr x0)), (2, .inl (x2 + (-1)))]) [1, 0] rfl ?_
      exact hP18 _ _ hV
    · have hV := hV.2 c
      refine s_ldc (n := 1000000000) d_X12_waysToTell_87 k_RX12_161 (by decide) (okn rfl) ?_
      refine s_goto (tgt := 94) d_X12_waysToTell_89 (by decide) ?_
      obtain ⟨o, hV⟩ := hV
      refine s_iast d_X12_waysToTell_94 o.1 o.2.1 o.2.2 ?_
      refine s_nmH (fun h2 eh2 => ?_)
      have hV := hV h2 eh2
      obtain ⟨o, hV⟩ := hV
      refine s_iinc (lv' := [(2, .inl (x2 + (-1))), (0, .inr (.inr x0)), (3, .inr (.inl x3)), (5, .inl x5)]) d_X12_waysToTell_95 (ma 1 rfl) o (Nat.le_of_ble_eq_true rfl) rfl ?_
      refine s_goto (tgt := 18) d_X12_waysToTell_98 (by decide) ?_
      refine s_pick (lv' := [(0, .inr (.inr x0)), (2, .inl (x2 + (-1)))]) [1, 0] rfl ?_
      exact hP18 _ _ hV
  · have hV := hV.2 c
    refine s_lload_n d_X12_waysToTell_36 rfl (ma 2 rfl) ?_
    refine s_aload_n d_X12_waysToTell_37 rfl (ma 0 rfl) ?_
    refine s_iload d_X12_waysToTell_38 (ma 3 rfl) ?_
    refine s_iload_n d_X12_waysToTell_40 rfl (ma 1 rfl) ?_
    obtain ⟨o, hV⟩ := hV
    refine v_RX12_156 rfl (Nat.le_of_ble_eq_true rfl) d_X12_waysToTell_41 o (Nat.le_of_ble_eq_true rfl) hV (fun r4 h3 hV => ?_)
    refine s_if_eq (tgt := 65) d_X12_waysToTell_44 (by decide) (fun c => ?_) (fun c => ?_)
    · have hV := hV.1 c
      refine s_lconst (n := 0) d_X12_waysToTell_65 (by decide) (okln rfl) ?_
      obtain ⟨o, hV⟩ := hV
      refine s_ladd d_X12_waysToTell_66 o ?_
      refine s_nmJ (fun x3_5 ex3_5 => ?_)
      have hV := hV x3_5 ex3_5
      refine s_lstore_n (lv' := [(3, .inr (.inl x3_5)), (0, .inr (.inr x0)), (2, .inl x2), (5, .inl x5)]) d_X12_waysToTell_67 rfl (Nat.le_of_ble_eq_true rfl) rfl ?_
      obtain ⟨o, hV⟩ := hV
      refine s_iinc (lv' := [(5, .inl (x5 + 1)), (3, .inr (.inl x3_5)), (0, .inr (.inr x0)), (2, .inl x2)]) d_X12_waysToTell_68 (ma 3 rfl) o (Nat.le_of_ble_eq_true rfl) rfl ?_
      refine s_goto (tgt := 27) d_X12_waysToTell_71 (by decide) ?_
      refine s_pick (lv' := [(0, .inr (.inr x0)), (2, .inl x2), (3, .inr (.inl x3_5)), (5, .inl (x5 + 1))]) [2, 3, 1, 0] rfl ?_
      exact hP27 _ _ _ hV
    · have hV := hV.2 c
      refine s_aload_n d_X12_waysToTell_47 rfl (ma 0 rfl) ?_
      obtain ⟨o, hV⟩ := hV
      refine f_RX12_78g rfl d_X12_waysToTell_48 o ?_
      refine s_iload_n d_X12_waysToTell_51 rfl (ma 1 rfl) ?_
      refine s_aload_n d_X12_waysToTell_52 rfl (ma 0 rfl) ?_
      obtain ⟨o, hV⟩ := hV
      refine f_RX12_26g rfl d_X12_waysToTell_53 o ?_
      refine s_iload d_X12_waysToTell_56 (ma 3 rfl) ?_
      obtain ⟨o, hV⟩ := hV
      refine s_iald d_X12_waysToTell_58 o.1 o.2.1 o.2.2 ?_
      obtain ⟨o, hV⟩ := hV
      refine s_iadd d_X12_waysToTell_59 o ?_
      obtain ⟨o, hV⟩ := hV
      refine s_iald d_X12_waysToTell_60 o.1 o.2.1 o.2.2 ?_
      refine s_i2l d_X12_waysToTell_61 ?_
      refine s_goto (tgt := 66) d_X12_waysToTell_62 (by decide) ?_
      obtain ⟨o, hV⟩ := hV
      refine s_ladd d_X12_waysToTell_66 o ?_
      refine s_nmJ (fun x3_6 ex3_6 => ?_)
      have hV := hV x3_6 ex3_6
      refine s_lstore_n (lv' := [(3, .inr (.inl x3_6)), (0, .inr (.inr x0)), (2, .inl x2), (5, .inl x5)]) d_X12_waysToTell_67 rfl (Nat.le_of_ble_eq_true rfl) rfl ?_
      obtain ⟨o, hV⟩ := hV
      refine s_iinc (lv' := [(5, .inl (x5 + 1)), (3, .inr (.inl x3_6)), (0, .inr (.inr x0)), (2, .inl x2)]) d_X12_waysToTell_68 (ma 3 rfl) o (Nat.le_of_ble_eq_true rfl) rfl ?_
      refine s_goto (tgt := 27) d_X12_waysToTell_71 (by decide) ?_
      refine s_pick (lv' := [(0, .inr (.inr x0)), (2, .inl x2), (3, .inr (.inl x3_6)), (5, .inl (x5 + 1))]) [2, 3, 1, 0] rfl ?_
      exact hP27 _ _ _ hV
def BLp_X12_waysToTell_18 (x0 : Nat) (P18 : Int → Hp → Prop) (x2 : Int) (h : Hp) (Q : Int → Hp → Prop) : Prop :=
  (x2 < 0 → (hK h x0 = 11 ∧ ((hK h (hR h x0 36) = 12 ∧ (0 : Int) ≤ 0 ∧ 0 < hL h (hR h x0 36)) ∧ (Q (hI h (hR h x0 36) 0) h)))) ∧ (¬ x2 < 0 → (Lp_X12_waysToTell_27 P18 x0 x2 0 0 h Q))
def Lp_X12_waysToTell_18 (x0 : Nat) (x2 : Int) (h : Hp) (Q : Int → Hp → Prop) : Prop := ∀ P18 : Int → Hp → Prop, (∀ (x2 : Int) (h : Hp), BLp_X12_waysToTell_18 x0 P18 x2 h Q → P18 x2 h) → P18 x2 h
theorem Lp_X12_waysToTell_18_ind {x0 : Nat} {Q : Int → Hp → Prop} (I : Int → Hp → Prop) (μ : Int → Hp → Nat) (hs : ∀ (P18 : Int → Hp → Prop) (x2 : Int) (h : Hp), I x2 h → (∀ (x2' : Int) (h' : Hp), I x2' h' → μ x2' h' < μ x2 h → P18 x2' h') → BLp_X12_waysToTell_18 x0 P18 x2 h Q) : ∀ (x2 : Int) (h : Hp), I x2 h → Lp_X12_waysToTell_18 x0 x2 h Q := by
  intro x2 h hI P18 hP
  have key : ∀ (n : Nat) (x2 : Int) (h : Hp), I x2 h → μ x2 h < n → P18 x2 h := by
    intro n
    induction n with
    | zero => intro x2 h _ hl; exact absurd hl (Nat.not_lt_zero _)
    | succ n ih => intro x2 h hi hl; exact hP x2 h (hs P18 x2 h hi (fun x2 h' hi' hl' => ih x2 h' hi' (by omega)))
  exact key _ x2 h hI (Nat.lt_succ_self _)
theorem GLp_X12_waysToTell_18 (x0 : Nat) (x2 : Int) (h : Hp) (Q : Int → Hp → Prop) (hV : Lp_X12_waysToTell_18 x0 x2 h Q) : Go i_X12_waysToTell 18 [(0, .inr (.inr x0)), (2, .inl x2)] [] h (qI Q) := by
  refine hV (fun x2 h => Go i_X12_waysToTell 18 [(0, .inr (.inr x0)), (2, .inl x2)] [] h (qI Q)) (fun x2 h hV => ?_)
  unfold BLp_X12_waysToTell_18 at hV
  have hP18 : ∀ (x2 : Int) (h : Hp), Go i_X12_waysToTell 18 [(0, .inr (.inr x0)), (2, .inl x2)] [] h (qI Q) → Go i_X12_waysToTell 18 [(0, .inr (.inr x0)), (2, .inl x2)] [] h (qI Q) := fun _ h z => z
  refine s_iload_n d_X12_waysToTell_18 rfl (ma 1 rfl) ?_
  refine s_if_lt (tgt := 101) d_X12_waysToTell_19 (by decide) (fun c => ?_) (fun c => ?_)
  · have hV := hV.1 c
    refine s_aload_n d_X12_waysToTell_101 rfl (ma 0 rfl) ?_
    obtain ⟨o, hV⟩ := hV
    refine f_RX12_78g rfl d_X12_waysToTell_102 o ?_
    refine s_iconst d_X12_waysToTell_105 (okn rfl) ?_
    obtain ⟨o, hV⟩ := hV
    refine s_iald d_X12_waysToTell_106 o.1 o.2.1 o.2.2 ?_
    exact s_iret d_X12_waysToTell_107 rfl rfl ⟨_, rfl, hV⟩
  · have hV := hV.2 c
    refine s_lconst (n := 0) d_X12_waysToTell_22 (by decide) (okln rfl) ?_
    refine s_lstore_n (lv' := [(3, .inr (.inl 0)), (0, .inr (.inr x0)), (2, .inl x2)]) d_X12_waysToTell_23 rfl (Nat.le_of_ble_eq_true rfl) rfl ?_
    refine s_iconst d_X12_waysToTell_24 (okn rfl) ?_
    refine s_istore (lv' := [(5, .inl 0), (3, .inr (.inl 0)), (0, .inr (.inr x0)), (2, .inl x2)]) d_X12_waysToTell_25 (Nat.le_of_ble_eq_true rfl) rfl ?_
    refine s_pick (lv' := [(0, .inr (.inr x0)), (2, .inl x2), (3, .inr (.inl 0)), (5, .inl 0)]) [2, 3, 1, 0] rfl ?_
    exact GLp_X12_waysToTell_27 _ _ _ _ _ _ (by intros; apply hP18; assumption) hV
def V_X12_waysToTell (x0 : Nat) (h : Hp) (Q : Int → Hp → Prop) : Prop :=
  hK h x0 = 11 ∧ ((hK h (hR h x0 14) = 12 ∧ (0 : Int) ≤ 0 ∧ 0 < hL h (hR h x0 14)) ∧ (∀ x1_1 : Int, x1_1 = hI h (hR h x0 14) 0 → (hK h x0 = 11 ∧ ((hK h (hR h x0 36) = 12 ∧ (0 : Int) ≤ x1_1 ∧ x1_1 < hL h (hR h x0 36)) ∧ ∀ h2 : Hp, h2 = wI h (hR h x0 36) x1_1 1 → (((-2147483648 : Int) ≤ x1_1 - 1 ∧ x1_1 - 1 ≤ (2147483647 : Int)) ∧ (∀ x2_3 : Int, x2_3 = x1_1 - 1 → (Lp_X12_waysToTell_18 x0 x2_3 h2 Q)))))))
theorem G_X12_waysToTell {x0 : Nat} (h : Hp) (Q : Int → Hp → Prop) (hV : V_X12_waysToTell x0 h Q) : C_X12_waysToTell x0 h Q := by
  unfold V_X12_waysToTell at hV
  show Go i_X12_waysToTell 0 [(0, .inr (.inr x0))] [] h (qI Q)
  refine s_aload_n d_X12_waysToTell_0 rfl (ma 0 rfl) ?_
  obtain ⟨o, hV⟩ := hV
  refine f_RX12_32g rfl d_X12_waysToTell_1 o ?_
  refine s_iconst d_X12_waysToTell_4 (okn rfl) ?_
  obtain ⟨o, hV⟩ := hV
  refine s_iald d_X12_waysToTell_5 o.1 o.2.1 o.2.2 ?_
  refine s_nmI (fun x1_1 ex1_1 => ?_)
  have hV := hV x1_1 ex1_1
  refine s_istore_n (lv' := [(1, .inl x1_1), (0, .inr (.inr x0))]) d_X12_waysToTell_6 rfl (Nat.le_of_ble_eq_true rfl) rfl ?_
  refine s_aload_n d_X12_waysToTell_7 rfl (ma 1 rfl) ?_
  obtain ⟨o, hV⟩ := hV
  refine f_RX12_78g rfl d_X12_waysToTell_8 o ?_
  refine s_iload_n d_X12_waysToTell_11 rfl (ma 0 rfl) ?_
  refine s_iconst d_X12_waysToTell_12 (okn rfl) ?_
  obtain ⟨o, hV⟩ := hV
  refine s_iast d_X12_waysToTell_13 o.1 o.2.1 o.2.2 ?_
  refine s_nmH (fun h2 eh2 => ?_)
  have hV := hV h2 eh2
  refine s_iload_n d_X12_waysToTell_14 rfl (ma 0 rfl) ?_
  refine s_iconst d_X12_waysToTell_15 (okn rfl) ?_
  obtain ⟨o, hV⟩ := hV
  refine s_isub d_X12_waysToTell_16 o ?_
  refine s_nmI (fun x2_3 ex2_3 => ?_)
  have hV := hV x2_3 ex2_3
  refine s_istore_n (lv' := [(2, .inl x2_3), (1, .inl x1_1), (0, .inr (.inr x0))]) d_X12_waysToTell_17 rfl (Nat.le_of_ble_eq_true rfl) rfl ?_
  refine s_pick (lv' := [(0, .inr (.inr x0)), (2, .inl x2_3)]) [2, 0] rfl ?_
  exact GLp_X12_waysToTell_18 _ _ _ _ hV

theorem d_X12_told_0 : decode i_X12_told.2.1 0 = .ok (.iload_n 1, 1) := by decide +kernel
theorem d_X12_told_1 : decode i_X12_told.2.1 1 = .ok (.tableswitch 143 0 13 #[71, 76, 83, 88, 93, 100, 107, 112, 112, 118, 123, 128, 133, 138], 71) := by decide +kernel
theorem d_X12_told_72 : decode i_X12_told.2.1 72 = .ok (.aload_n 0, 1) := by decide +kernel
theorem d_X12_told_73 : decode i_X12_told.2.1 73 = .ok (.getfield 133, 3) := by decide +kernel
theorem d_X12_told_76 : decode i_X12_told.2.1 76 = .ok (.ireturn, 1) := by decide +kernel
theorem d_X12_told_77 : decode i_X12_told.2.1 77 = .ok (.aload_n 0, 1) := by decide +kernel
theorem d_X12_told_78 : decode i_X12_told.2.1 78 = .ok (.getfield 32, 3) := by decide +kernel
theorem d_X12_told_81 : decode i_X12_told.2.1 81 = .ok (.iconst 0, 1) := by decide +kernel
theorem d_X12_told_82 : decode i_X12_told.2.1 82 = .ok (.iaload, 1) := by decide +kernel
theorem d_X12_told_83 : decode i_X12_told.2.1 83 = .ok (.ireturn, 1) := by decide +kernel
theorem d_X12_told_84 : decode i_X12_told.2.1 84 = .ok (.aload_n 0, 1) := by decide +kernel
theorem d_X12_told_85 : decode i_X12_told.2.1 85 = .ok (.getfield 140, 3) := by decide +kernel
theorem d_X12_told_88 : decode i_X12_told.2.1 88 = .ok (.ireturn, 1) := by decide +kernel
theorem d_X12_told_89 : decode i_X12_told.2.1 89 = .ok (.aload_n 0, 1) := by decide +kernel
theorem d_X12_told_90 : decode i_X12_told.2.1 90 = .ok (.getfield 95, 3) := by decide +kernel
theorem d_X12_told_93 : decode i_X12_told.2.1 93 = .ok (.ireturn, 1) := by decide +kernel
theorem d_X12_told_94 : decode i_X12_told.2.1 94 = .ok (.aload_n 0, 1) := by decide +kernel
theorem d_X12_told_95 : decode i_X12_told.2.1 95 = .ok (.getfield 32, 3) := by decide +kernel
theorem d_X12_told_98 : decode i_X12_told.2.1 98 = .ok (.iconst 1, 1) := by decide +kernel
theorem d_X12_told_99 : decode i_X12_told.2.1 99 = .ok (.iaload, 1) := by decide +kernel
theorem d_X12_told_100 : decode i_X12_told.2.1 100 = .ok (.ireturn, 1) := by decide +kernel
theorem d_X12_told_101 : decode i_X12_told.2.1 101 = .ok (.aload_n 0, 1) := by decide +kernel
theorem d_X12_told_102 : decode i_X12_told.2.1 102 = .ok (.getfield 32, 3) := by decide +kernel
theorem d_X12_told_105 : decode i_X12_told.2.1 105 = .ok (.iconst 2, 1) := by decide +kernel
theorem d_X12_told_106 : decode i_X12_told.2.1 106 = .ok (.iaload, 1) := by decide +kernel
theorem d_X12_told_107 : decode i_X12_told.2.1 107 = .ok (.ireturn, 1) := by decide +kernel
theorem d_X12_told_108 : decode i_X12_told.2.1 108 = .ok (.aload_n 0, 1) := by decide +kernel
theorem d_X12_told_109 : decode i_X12_told.2.1 109 = .ok (.invokevirtual 162, 3) := by decide +kernel
theorem d_X12_told_112 : decode i_X12_told.2.1 112 = .ok (.ireturn, 1) := by decide +kernel
theorem d_X12_told_113 : decode i_X12_told.2.1 113 = .ok (.aload_n 0, 1) := by decide +kernel
theorem d_X12_told_114 : decode i_X12_told.2.1 114 = .ok (.iload_n 1, 1) := by decide +kernel
theorem d_X12_told_115 : decode i_X12_told.2.1 115 = .ok (.invokevirtual 165, 3) := by decide +kernel
theorem d_X12_told_118 : decode i_X12_told.2.1 118 = .ok (.ireturn, 1) := by decide +kernel
theorem d_X12_told_119 : decode i_X12_told.2.1 119 = .ok (.aload_n 0, 1) := by decide +kernel
theorem d_X12_told_120 : decode i_X12_told.2.1 120 = .ok (.invokevirtual 169, 3) := by decide +kernel
theorem d_X12_told_123 : decode i_X12_told.2.1 123 = .ok (.ireturn, 1) := by decide +kernel
theorem d_X12_told_124 : decode i_X12_told.2.1 124 = .ok (.aload_n 0, 1) := by decide +kernel
theorem d_X12_told_125 : decode i_X12_told.2.1 125 = .ok (.invokevirtual 172, 3) := by decide +kernel
theorem d_X12_told_128 : decode i_X12_told.2.1 128 = .ok (.ireturn, 1) := by decide +kernel
theorem d_X12_told_129 : decode i_X12_told.2.1 129 = .ok (.aload_n 0, 1) := by decide +kernel
theorem d_X12_told_130 : decode i_X12_told.2.1 130 = .ok (.getfield 146, 3) := by decide +kernel
theorem d_X12_told_133 : decode i_X12_told.2.1 133 = .ok (.ireturn, 1) := by decide +kernel
theorem d_X12_told_134 : decode i_X12_told.2.1 134 = .ok (.aload_n 0, 1) := by decide +kernel
theorem d_X12_told_135 : decode i_X12_told.2.1 135 = .ok (.getfield 149, 3) := by decide +kernel
theorem d_X12_told_138 : decode i_X12_told.2.1 138 = .ok (.ireturn, 1) := by decide +kernel
theorem d_X12_told_139 : decode i_X12_told.2.1 139 = .ok (.aload_n 0, 1) := by decide +kernel
theorem d_X12_told_140 : decode i_X12_told.2.1 140 = .ok (.getfield 143, 3) := by decide +kernel
theorem d_X12_told_143 : decode i_X12_told.2.1 143 = .ok (.ireturn, 1) := by decide +kernel
theorem d_X12_told_144 : decode i_X12_told.2.1 144 = .ok (.ldc 94, 2) := by decide +kernel
theorem d_X12_told_146 : decode i_X12_told.2.1 146 = .ok (.ireturn, 1) := by decide +kernel
def V_X12_told (x0 : Nat) (x1 : Int) (h : Hp) (Q : Int → Hp → Prop) : Prop :=
  ((x1 < 0 ∨ 13 < x1) → (Q (-1000000002) h)) ∧ (x1 = 0 → (hK h x0 = 11 ∧ (Q (hI h x0 10) h))) ∧ (x1 = 1 → (hK h x0 = 11 ∧ ((hK h (hR h x0 14) = 12 ∧ (0 : Int) ≤ 0 ∧ 0 < hL h (hR h x0 14)) ∧ (Q (hI h (hR h x0 14) 0) h)))) ∧ (x1 = 2 → (hK h x0 = 11 ∧ (Q (hI h x0 11) h))) ∧ (x1 = 3 → (hK h x0 = 11 ∧ (Q (hI h x0 0) h))) ∧ (x1 = 4 → (hK h x0 = 11 ∧ ((hK h (hR h x0 14) = 12 ∧ (0 : Int) ≤ 1 ∧ 1 < hL h (hR h x0 14)) ∧ (Q (hI h (hR h x0 14) 1) h)))) ∧ (x1 = 5 → (hK h x0 = 11 ∧ ((hK h (hR h x0 14) = 12 ∧ (0 : Int) ≤ 2 ∧ 2 < hL h (hR h x0 14)) ∧ (Q (hI h (hR h x0 14) 2) h)))) ∧ (x1 = 6 → (hK h x0 = 11 ∧ C_X12_runs x0  h (fun r2 h1 => (Q r2 h1)))) ∧ (x1 = 7 → (hK h x0 = 11 ∧ C_X12_longest x0 x1 h (fun r4 h3 => (Q r4 h3)))) ∧ (x1 = 8 → (hK h x0 = 11 ∧ C_X12_longest x0 x1 h (fun r6 h5 => (Q r6 h5)))) ∧ (x1 = 9 → (hK h x0 = 11 ∧ C_X12_unlikeOnes x0  h (fun r8 h7 => (Q r8 h7)))) ∧ (x1 = 10 → (hK h x0 = 11 ∧ C_X12_waysToTell x0  h (fun r10 h9 => (Q r10 h9)))) ∧ (x1 = 11 → (hK h x0 = 11 ∧ (Q (hI h x0 21) h))) ∧ (x1 = 12 → (hK h x0 = 11 ∧ (Q (hI h x0 25) h))) ∧ (x1 = 13 → (hK h x0 = 11 ∧ (Q (hI h x0 16) h)))
theorem G_X12_told {x0 : Nat} {x1 : Int} (h : Hp) (Q : Int → Hp → Prop) (hV : V_X12_told x0 x1 h Q) : C_X12_told x0 x1 h Q := by
  unfold V_X12_told at hV
  show Go i_X12_told 0 [(0, .inr (.inr x0)), (1, .inl x1)] [] h (qI Q)
  refine s_iload_n d_X12_told_0 rfl (ma 1 rfl) ?_
  by_cases c : x1 < 0 ∨ 13 < x1
  · have hV := hV.1 c
    refine s_tswOut (tgt := 144) d_X12_told_1 c (by decide) ?_
    refine s_ldc (n := (-1000000002)) d_X12_told_144 k_RX12_94 (by decide) (okn rfl) ?_
    exact s_iret d_X12_told_146 rfl rfl ⟨_, rfl, hV⟩
  · have hV := hV.2
    have w1 : ¬ x1 < 0 := fun z => c (Or.inl z)
    have w2 : ¬ 13 < x1 := fun z => c (Or.inr z)
    have g0 : (0 : Int) ≤ x1 := Int.not_lt.mp w1
    by_cases c0 : x1 = 0
    · have hV := hV.1 c0
      refine s_tswIn (tgt := 72) d_X12_told_1 w1 w2 (by rw [c0]; try rfl) (by decide) ?_
      refine s_aload_n d_X12_told_72 rfl (ma 0 rfl) ?_
      obtain ⟨o, hV⟩ := hV
      refine f_RX12_133g rfl d_X12_told_73 o ?_
      exact s_iret d_X12_told_76 rfl rfl ⟨_, rfl, hV⟩
    have hV := hV.2
    have g1 : (1 : Int) ≤ x1 := Int.lt_iff_le_and_ne.mpr ⟨g0, fun z => c0 z.symm⟩
    clear c0 g0
    by_cases c1 : x1 = 1
    · have hV := hV.1 c1
      refine s_tswIn (tgt := 77) d_X12_told_1 w1 w2 (by rw [c1]; try rfl) (by decide) ?_
      refine s_aload_n d_X12_told_77 rfl (ma 0 rfl) ?_
      obtain ⟨o, hV⟩ := hV
      refine f_RX12_32g rfl d_X12_told_78 o ?_
      refine s_iconst d_X12_told_81 (okn rfl) ?_
      obtain ⟨o, hV⟩ := hV
      refine s_iald d_X12_told_82 o.1 o.2.1 o.2.2 ?_
      exact s_iret d_X12_told_83 rfl rfl ⟨_, rfl, hV⟩
    have hV := hV.2
    have g2 : (2 : Int) ≤ x1 := Int.lt_iff_le_and_ne.mpr ⟨g1, fun z => c1 z.symm⟩
    clear c1 g1
    by_cases c2 : x1 = 2
    · have hV := hV.1 c2
      refine s_tswIn (tgt := 84) d_X12_told_1 w1 w2 (by rw [c2]; try rfl) (by decide) ?_
      refine s_aload_n d_X12_told_84 rfl (ma 0 rfl) ?_
      obtain ⟨o, hV⟩ := hV
      refine f_RX12_140g rfl d_X12_told_85 o ?_
      exact s_iret d_X12_told_88 rfl rfl ⟨_, rfl, hV⟩
    have hV := hV.2
    have g3 : (3 : Int) ≤ x1 := Int.lt_iff_le_and_ne.mpr ⟨g2, fun z => c2 z.symm⟩
    clear c2 g2
    by_cases c3 : x1 = 3
    · have hV := hV.1 c3
      refine s_tswIn (tgt := 89) d_X12_told_1 w1 w2 (by rw [c3]; try rfl) (by decide) ?_
      refine s_aload_n d_X12_told_89 rfl (ma 0 rfl) ?_
      obtain ⟨o, hV⟩ := hV
      refine f_RX12_95g rfl d_X12_told_90 o ?_
      exact s_iret d_X12_told_93 rfl rfl ⟨_, rfl, hV⟩
    have hV := hV.2
    have g4 : (4 : Int) ≤ x1 := Int.lt_iff_le_and_ne.mpr ⟨g3, fun z => c3 z.symm⟩
    clear c3 g3
    by_cases c4 : x1 = 4
    · have hV := hV.1 c4
      refine s_tswIn (tgt := 94) d_X12_told_1 w1 w2 (by rw [c4]; try rfl) (by decide) ?_
      refine s_aload_n d_X12_told_94 rfl (ma 0 rfl) ?_
      obtain ⟨o, hV⟩ := hV
      refine f_RX12_32g rfl d_X12_told_95 o ?_
      refine s_iconst d_X12_told_98 (okn rfl) ?_
      obtain ⟨o, hV⟩ := hV
      refine s_iald d_X12_told_99 o.1 o.2.1 o.2.2 ?_
      exact s_iret d_X12_told_100 rfl rfl ⟨_, rfl, hV⟩
    have hV := hV.2
    have g5 : (5 : Int) ≤ x1 := Int.lt_iff_le_and_ne.mpr ⟨g4, fun z => c4 z.symm⟩
    clear c4 g4
    by_cases c5 : x1 = 5
    · have hV := hV.1 c5
      refine s_tswIn (tgt := 101) d_X12_told_1 w1 w2 (by rw [c5]; try rfl) (by decide) ?_
      refine s_aload_n d_X12_told_101 rfl (ma 0 rfl) ?_
      obtain ⟨o, hV⟩ := hV
      refine f_RX12_32g rfl d_X12_told_102 o ?_
      refine s_iconst d_X12_told_105 (okn rfl) ?_
      obtain ⟨o, hV⟩ := hV
      refine s_iald d_X12_told_106 o.1 o.2.1 o.2.2 ?_
      exact s_iret d_X12_told_107 rfl rfl ⟨_, rfl, hV⟩
    have hV := hV.2
    have g6 : (6 : Int) ≤ x1 := Int.lt_iff_le_and_ne.mpr ⟨g5, fun z => c5 z.symm⟩
    clear c5 g5
    by_cases c6 : x1 = 6
    · have hV := hV.1 c6
      refine s_tswIn (tgt := 108) d_X12_told_1 w1 w2 (by rw [c6]; try rfl) (by decide) ?_
      refine s_aload_n d_X12_told_108 rfl (ma 0 rfl) ?_
      obtain ⟨o, hV⟩ := hV
      refine v_RX12_162 rfl (Nat.le_of_ble_eq_true rfl) d_X12_told_109 o (Nat.le_of_ble_eq_true rfl) hV (fun r2 h1 hV => ?_)
      exact s_iret d_X12_told_112 rfl rfl ⟨_, rfl, hV⟩
    have hV := hV.2
    have g7 : (7 : Int) ≤ x1 := Int.lt_iff_le_and_ne.mpr ⟨g6, fun z => c6 z.symm⟩
    clear c6 g6
    by_cases c7 : x1 = 7
    · have hV := hV.1 c7
      refine s_tswIn (tgt := 113) d_X12_told_1 w1 w2 (by rw [c7]; try rfl) (by decide) ?_
      refine s_aload_n d_X12_told_113 rfl (ma 0 rfl) ?_
      refine s_iload_n d_X12_told_114 rfl (ma 1 rfl) ?_
      obtain ⟨o, hV⟩ := hV
      refine v_RX12_165 rfl (Nat.le_of_ble_eq_true rfl) d_X12_told_115 o (Nat.le_of_ble_eq_true rfl) hV (fun r4 h3 hV => ?_)
      exact s_iret d_X12_told_118 rfl rfl ⟨_, rfl, hV⟩
    have hV := hV.2
    have g8 : (8 : Int) ≤ x1 := Int.lt_iff_le_and_ne.mpr ⟨g7, fun z => c7 z.symm⟩
    clear c7 g7
    by_cases c8 : x1 = 8
    · have hV := hV.1 c8
      refine s_tswIn (tgt := 113) d_X12_told_1 w1 w2 (by rw [c8]; try rfl) (by decide) ?_
      refine s_aload_n d_X12_told_113 rfl (ma 0 rfl) ?_
      refine s_iload_n d_X12_told_114 rfl (ma 1 rfl) ?_
      obtain ⟨o, hV⟩ := hV
      refine v_RX12_165 rfl (Nat.le_of_ble_eq_true rfl) d_X12_told_115 o (Nat.le_of_ble_eq_true rfl) hV (fun r6 h5 hV => ?_)
      exact s_iret d_X12_told_118 rfl rfl ⟨_, rfl, hV⟩
    have hV := hV.2
    have g9 : (9 : Int) ≤ x1 := Int.lt_iff_le_and_ne.mpr ⟨g8, fun z => c8 z.symm⟩
    clear c8 g8
    by_cases c9 : x1 = 9
    · have hV := hV.1 c9
      refine s_tswIn (tgt := 119) d_X12_told_1 w1 w2 (by rw [c9]; try rfl) (by decide) ?_
      refine s_aload_n d_X12_told_119 rfl (ma 0 rfl) ?_
      obtain ⟨o, hV⟩ := hV
      refine v_RX12_169 rfl (Nat.le_of_ble_eq_true rfl) d_X12_told_120 o (Nat.le_of_ble_eq_true rfl) hV (fun r8 h7 hV => ?_)
      exact s_iret d_X12_told_123 rfl rfl ⟨_, rfl, hV⟩
    have hV := hV.2
    have g10 : (10 : Int) ≤ x1 := Int.lt_iff_le_and_ne.mpr ⟨g9, fun z => c9 z.symm⟩
    clear c9 g9
    by_cases c10 : x1 = 10
    · have hV := hV.1 c10
      refine s_tswIn (tgt := 124) d_X12_told_1 w1 w2 (by rw [c10]; try rfl) (by decide) ?_
      refine s_aload_n d_X12_told_124 rfl (ma 0 rfl) ?_
      obtain ⟨o, hV⟩ := hV
      refine v_RX12_172 rfl (Nat.le_of_ble_eq_true rfl) d_X12_told_125 o (Nat.le_of_ble_eq_true rfl) hV (fun r10 h9 hV => ?_)
      exact s_iret d_X12_told_128 rfl rfl ⟨_, rfl, hV⟩
    have hV := hV.2
    have g11 : (11 : Int) ≤ x1 := Int.lt_iff_le_and_ne.mpr ⟨g10, fun z => c10 z.symm⟩
    clear c10 g10
    by_cases c11 : x1 = 11
    · have hV := hV.1 c11
      refine s_tswIn (tgt := 129) d_X12_told_1 w1 w2 (by rw [c11]; try rfl) (by decide) ?_
      refine s_aload_n d_X12_told_129 rfl (ma 0 rfl) ?_
      obtain ⟨o, hV⟩ := hV
      refine f_RX12_146g rfl d_X12_told_130 o ?_
      exact s_iret d_X12_told_133 rfl rfl ⟨_, rfl, hV⟩
    have hV := hV.2
    have g12 : (12 : Int) ≤ x1 := Int.lt_iff_le_and_ne.mpr ⟨g11, fun z => c11 z.symm⟩
    clear c11 g11
    by_cases c12 : x1 = 12
    · have hV := hV.1 c12
      refine s_tswIn (tgt := 134) d_X12_told_1 w1 w2 (by rw [c12]; try rfl) (by decide) ?_
      refine s_aload_n d_X12_told_134 rfl (ma 0 rfl) ?_
      obtain ⟨o, hV⟩ := hV
      refine f_RX12_149g rfl d_X12_told_135 o ?_
      exact s_iret d_X12_told_138 rfl rfl ⟨_, rfl, hV⟩
    have hV := hV.2
    have g13 : (13 : Int) ≤ x1 := Int.lt_iff_le_and_ne.mpr ⟨g12, fun z => c12 z.symm⟩
    clear c12 g12
    have c13 : x1 = 13 := Int.le_antisymm (Int.not_lt.mp w2) g13
    have hV := hV c13
    refine s_tswIn (tgt := 139) d_X12_told_1 w1 w2 (by rw [c13]; try rfl) (by decide) ?_
    refine s_aload_n d_X12_told_139 rfl (ma 0 rfl) ?_
    obtain ⟨o, hV⟩ := hV
    refine f_RX12_143g rfl d_X12_told_140 o ?_
    exact s_iret d_X12_told_143 rfl rfl ⟨_, rfl, hV⟩

theorem d_X12_figureAt_0 : decode i_X12_figureAt.2.1 0 = .ok (.iload_n 1, 1) := by decide +kernel
theorem d_X12_figureAt_1 : decode i_X12_figureAt.2.1 1 = .ok (.aload_n 0, 1) := by decide +kernel
theorem d_X12_figureAt_2 : decode i_X12_figureAt.2.1 2 = .ok (.getfield 32, 3) := by decide +kernel
theorem d_X12_figureAt_5 : decode i_X12_figureAt.2.1 5 = .ok (.iconst 0, 1) := by decide +kernel
theorem d_X12_figureAt_6 : decode i_X12_figureAt.2.1 6 = .ok (.iaload, 1) := by decide +kernel
theorem d_X12_figureAt_7 : decode i_X12_figureAt.2.1 7 = .ok (.if_icmp .ge 14, 3) := by decide +kernel
theorem d_X12_figureAt_10 : decode i_X12_figureAt.2.1 10 = .ok (.aload_n 0, 1) := by decide +kernel
theorem d_X12_figureAt_11 : decode i_X12_figureAt.2.1 11 = .ok (.getfield 32, 3) := by decide +kernel
theorem d_X12_figureAt_14 : decode i_X12_figureAt.2.1 14 = .ok (.iconst 3, 1) := by decide +kernel
theorem d_X12_figureAt_15 : decode i_X12_figureAt.2.1 15 = .ok (.iload_n 1, 1) := by decide +kernel
theorem d_X12_figureAt_16 : decode i_X12_figureAt.2.1 16 = .ok (.iadd, 1) := by decide +kernel
theorem d_X12_figureAt_17 : decode i_X12_figureAt.2.1 17 = .ok (.iaload, 1) := by decide +kernel
theorem d_X12_figureAt_18 : decode i_X12_figureAt.2.1 18 = .ok (.goto 4, 3) := by decide +kernel
theorem d_X12_figureAt_21 : decode i_X12_figureAt.2.1 21 = .ok (.iconst (-1), 1) := by decide +kernel
theorem d_X12_figureAt_22 : decode i_X12_figureAt.2.1 22 = .ok (.ireturn, 1) := by decide +kernel
def V_X12_figureAt (x0 : Nat) (x1 : Int) (h : Hp) (Q : Int → Hp → Prop) : Prop :=
  hK h x0 = 11 ∧ ((hK h (hR h x0 14) = 12 ∧ (0 : Int) ≤ 0 ∧ 0 < hL h (hR h x0 14)) ∧ ((hI h (hR h x0 14) 0 ≤ x1 → (Q (-1) h)) ∧ (¬ hI h (hR h x0 14) 0 ≤ x1 → (hK h x0 = 11 ∧ (((-2147483648 : Int) ≤ 3 + x1 ∧ 3 + x1 ≤ (2147483647 : Int)) ∧ ((hK h (hR h x0 14) = 12 ∧ (0 : Int) ≤ 3 + x1 ∧ 3 + x1 < hL h (hR h x0 14)) ∧ (Q (hI h (hR h x0 14) (3 + x1)) h)))))))
theorem G_X12_figureAt {x0 : Nat} {x1 : Int} (h : Hp) (Q : Int → Hp → Prop) (hV : V_X12_figureAt x0 x1 h Q) : C_X12_figureAt x0 x1 h Q := by
  unfold V_X12_figureAt at hV
  show Go i_X12_figureAt 0 [(0, .inr (.inr x0)), (1, .inl x1)] [] h (qI Q)
  refine s_iload_n d_X12_figureAt_0 rfl (ma 1 rfl) ?_
  refine s_aload_n d_X12_figureAt_1 rfl (ma 0 rfl) ?_
  obtain ⟨o, hV⟩ := hV
  refine f_RX12_32g rfl d_X12_figureAt_2 o ?_
  refine s_iconst d_X12_figureAt_5 (okn rfl) ?_
  obtain ⟨o, hV⟩ := hV
  refine s_iald d_X12_figureAt_6 o.1 o.2.1 o.2.2 ?_
  refine s_icmp_ge (tgt := 21) d_X12_figureAt_7 (by decide) (fun c => ?_) (fun c => ?_)
  · have hV := hV.1 c
    refine s_iconst d_X12_figureAt_21 (okn rfl) ?_
    exact s_iret d_X12_figureAt_22 rfl rfl ⟨_, rfl, hV⟩
  · have hV := hV.2 c
    refine s_aload_n d_X12_figureAt_10 rfl (ma 0 rfl) ?_
    obtain ⟨o, hV⟩ := hV
    refine f_RX12_32g rfl d_X12_figureAt_11 o ?_
    refine s_iconst d_X12_figureAt_14 (okn rfl) ?_
    refine s_iload_n d_X12_figureAt_15 rfl (ma 1 rfl) ?_
    obtain ⟨o, hV⟩ := hV
    refine s_iadd d_X12_figureAt_16 o ?_
    obtain ⟨o, hV⟩ := hV
    refine s_iald d_X12_figureAt_17 o.1 o.2.1 o.2.2 ?_
    refine s_goto (tgt := 22) d_X12_figureAt_18 (by decide) ?_
    exact s_iret d_X12_figureAt_22 rfl rfl ⟨_, rfl, hV⟩

theorem d_X12_at_0 : decode i_X12_at.2.1 0 = .ok (.iload_n 1, 1) := by decide +kernel
theorem d_X12_at_1 : decode i_X12_at.2.1 1 = .ok (.iconst 0, 1) := by decide +kernel
theorem d_X12_at_2 : decode i_X12_at.2.1 2 = .ok (.bipush 59, 2) := by decide +kernel
theorem d_X12_at_4 : decode i_X12_at.2.1 4 = .ok (.invokestatic 90, 3) := by decide +kernel
theorem d_X12_at_7 : decode i_X12_at.2.1 7 = .ok (.ifCond .eq 11, 3) := by decide +kernel
theorem d_X12_at_10 : decode i_X12_at.2.1 10 = .ok (.aload_n 0, 1) := by decide +kernel
theorem d_X12_at_11 : decode i_X12_at.2.1 11 = .ok (.iload_n 1, 1) := by decide +kernel
theorem d_X12_at_12 : decode i_X12_at.2.1 12 = .ok (.invokevirtual 175, 3) := by decide +kernel
theorem d_X12_at_15 : decode i_X12_at.2.1 15 = .ok (.goto 5, 3) := by decide +kernel
theorem d_X12_at_18 : decode i_X12_at.2.1 18 = .ok (.ldc 94, 2) := by decide +kernel
theorem d_X12_at_20 : decode i_X12_at.2.1 20 = .ok (.ireturn, 1) := by decide +kernel
def V_X12_at (x0 : Nat) (x1 : Int) (h : Hp) (Q : Int → Hp → Prop) : Prop :=
  C_X12_is x1 0 59 h (fun r2 h1 => ((r2 = 0 → (Q (-1000000002) h1)) ∧ (¬ r2 = 0 → (hK h1 x0 = 11 ∧ C_X12_figureAt x0 x1 h1 (fun r4 h3 => (Q r4 h3))))))
theorem G_X12_at {x0 : Nat} {x1 : Int} (h : Hp) (Q : Int → Hp → Prop) (hV : V_X12_at x0 x1 h Q) : C_X12_at x0 x1 h Q := by
  unfold V_X12_at at hV
  show Go i_X12_at 0 [(0, .inr (.inr x0)), (1, .inl x1)] [] h (qI Q)
  refine s_iload_n d_X12_at_0 rfl (ma 1 rfl) ?_
  refine s_iconst d_X12_at_1 (okn rfl) ?_
  refine s_bipush d_X12_at_2 (by decide) (okn rfl) ?_
  refine v_RX12_90 rfl (Nat.le_of_ble_eq_true rfl) d_X12_at_4 (Nat.le_of_ble_eq_true rfl) hV (fun r2 h1 hV => ?_)
  refine s_if_eq (tgt := 18) d_X12_at_7 (by decide) (fun c => ?_) (fun c => ?_)
  · have hV := hV.1 c
    refine s_ldc (n := (-1000000002)) d_X12_at_18 k_RX12_94 (by decide) (okn rfl) ?_
    exact s_iret d_X12_at_20 rfl rfl ⟨_, rfl, hV⟩
  · have hV := hV.2 c
    refine s_aload_n d_X12_at_10 rfl (ma 0 rfl) ?_
    refine s_iload_n d_X12_at_11 rfl (ma 1 rfl) ?_
    obtain ⟨o, hV⟩ := hV
    refine v_RX12_175 rfl (Nat.le_of_ble_eq_true rfl) d_X12_at_12 o (Nat.le_of_ble_eq_true rfl) hV (fun r4 h3 hV => ?_)
    refine s_goto (tgt := 20) d_X12_at_15 (by decide) ?_
    exact s_iret d_X12_at_20 rfl rfl ⟨_, rfl, hV⟩

theorem d_X12_isWord_0 : decode i_X12_isWord.2.1 0 = .ok (.iload_n 1, 1) := by decide +kernel
theorem d_X12_isWord_1 : decode i_X12_isWord.2.1 1 = .ok (.iconst 0, 1) := by decide +kernel
theorem d_X12_isWord_2 : decode i_X12_isWord.2.1 2 = .ok (.aload_n 0, 1) := by decide +kernel
theorem d_X12_isWord_3 : decode i_X12_isWord.2.1 3 = .ok (.getfield 140, 3) := by decide +kernel
theorem d_X12_isWord_6 : decode i_X12_isWord.2.1 6 = .ok (.iconst 1, 1) := by decide +kernel
theorem d_X12_isWord_7 : decode i_X12_isWord.2.1 7 = .ok (.isub, 1) := by decide +kernel
theorem d_X12_isWord_8 : decode i_X12_isWord.2.1 8 = .ok (.invokestatic 90, 3) := by decide +kernel
theorem d_X12_isWord_11 : decode i_X12_isWord.2.1 11 = .ok (.ireturn, 1) := by decide +kernel
def V_X12_isWord (x0 : Nat) (x1 : Int) (h : Hp) (Q : Int → Hp → Prop) : Prop :=
  hK h x0 = 11 ∧ (((-2147483648 : Int) ≤ (hI h x0 11) - 1 ∧ (hI h x0 11) - 1 ≤ (2147483647 : Int)) ∧ (C_X12_is x1 0 ((hI h x0 11) - 1) h (fun r2 h1 => (((r2 : Int) = 0 ∨ (r2 : Int) = 1) ∧ Q r2 h1))))
theorem G_X12_isWord {x0 : Nat} {x1 : Int} (h : Hp) (Q : Int → Hp → Prop) (hV : V_X12_isWord x0 x1 h Q) : C_X12_isWord x0 x1 h Q := by
  unfold V_X12_isWord at hV
  show Go i_X12_isWord 0 [(0, .inr (.inr x0)), (1, .inl x1)] [] h (qI Q)
  refine s_iload_n d_X12_isWord_0 rfl (ma 1 rfl) ?_
  refine s_iconst d_X12_isWord_1 (okn rfl) ?_
  refine s_aload_n d_X12_isWord_2 rfl (ma 0 rfl) ?_
  obtain ⟨o, hV⟩ := hV
  refine f_RX12_140g rfl d_X12_isWord_3 o ?_
  refine s_iconst d_X12_isWord_6 (okn rfl) ?_
  obtain ⟨o, hV⟩ := hV
  refine s_isub d_X12_isWord_7 o ?_
  refine v_RX12_90 rfl (Nat.le_of_ble_eq_true rfl) d_X12_isWord_8 (Nat.le_of_ble_eq_true rfl) hV (fun r2 h1 hV => ?_)
  exact s_iret d_X12_isWord_11 rfl (nar_z hV.1) ⟨_, rfl, hV.2⟩

theorem d_X12_spelt_0 : decode i_X12_spelt.2.1 0 = .ok (.aload_n 0, 1) := by decide +kernel
theorem d_X12_spelt_1 : decode i_X12_spelt.2.1 1 = .ok (.iload_n 1, 1) := by decide +kernel
theorem d_X12_spelt_2 : decode i_X12_spelt.2.1 2 = .ok (.invokevirtual 178, 3) := by decide +kernel
theorem d_X12_spelt_5 : decode i_X12_spelt.2.1 5 = .ok (.ifCond .ne 6, 3) := by decide +kernel
theorem d_X12_spelt_8 : decode i_X12_spelt.2.1 8 = .ok (.ldc 181, 2) := by decide +kernel
theorem d_X12_spelt_10 : decode i_X12_spelt.2.1 10 = .ok (.ireturn, 1) := by decide +kernel
theorem d_X12_spelt_11 : decode i_X12_spelt.2.1 11 = .ok (.iload_n 2, 1) := by decide +kernel
theorem d_X12_spelt_12 : decode i_X12_spelt.2.1 12 = .ok (.iconst 0, 1) := by decide +kernel
theorem d_X12_spelt_13 : decode i_X12_spelt.2.1 13 = .ok (.bipush 7, 2) := by decide +kernel
theorem d_X12_spelt_15 : decode i_X12_spelt.2.1 15 = .ok (.invokestatic 90, 3) := by decide +kernel
theorem d_X12_spelt_18 : decode i_X12_spelt.2.1 18 = .ok (.ifCond .ne 6, 3) := by decide +kernel
theorem d_X12_spelt_21 : decode i_X12_spelt.2.1 21 = .ok (.ldc 94, 2) := by decide +kernel
theorem d_X12_spelt_23 : decode i_X12_spelt.2.1 23 = .ok (.ireturn, 1) := by decide +kernel
theorem d_X12_spelt_24 : decode i_X12_spelt.2.1 24 = .ok (.iload_n 2, 1) := by decide +kernel
theorem d_X12_spelt_25 : decode i_X12_spelt.2.1 25 = .ok (.aload_n 0, 1) := by decide +kernel
theorem d_X12_spelt_26 : decode i_X12_spelt.2.1 26 = .ok (.getfield 26, 3) := by decide +kernel
theorem d_X12_spelt_29 : decode i_X12_spelt.2.1 29 = .ok (.iload_n 1, 1) := by decide +kernel
theorem d_X12_spelt_30 : decode i_X12_spelt.2.1 30 = .ok (.iaload, 1) := by decide +kernel
theorem d_X12_spelt_31 : decode i_X12_spelt.2.1 31 = .ok (.if_icmp .ge 17, 3) := by decide +kernel
theorem d_X12_spelt_34 : decode i_X12_spelt.2.1 34 = .ok (.aload_n 0, 1) := by decide +kernel
theorem d_X12_spelt_35 : decode i_X12_spelt.2.1 35 = .ok (.getfield 29, 3) := by decide +kernel
theorem d_X12_spelt_38 : decode i_X12_spelt.2.1 38 = .ok (.bipush 8, 2) := by decide +kernel
theorem d_X12_spelt_40 : decode i_X12_spelt.2.1 40 = .ok (.iload_n 1, 1) := by decide +kernel
theorem d_X12_spelt_41 : decode i_X12_spelt.2.1 41 = .ok (.imul, 1) := by decide +kernel
theorem d_X12_spelt_42 : decode i_X12_spelt.2.1 42 = .ok (.iload_n 2, 1) := by decide +kernel
theorem d_X12_spelt_43 : decode i_X12_spelt.2.1 43 = .ok (.iadd, 1) := by decide +kernel
theorem d_X12_spelt_44 : decode i_X12_spelt.2.1 44 = .ok (.iaload, 1) := by decide +kernel
theorem d_X12_spelt_45 : decode i_X12_spelt.2.1 45 = .ok (.goto 4, 3) := by decide +kernel
theorem d_X12_spelt_48 : decode i_X12_spelt.2.1 48 = .ok (.iconst (-1), 1) := by decide +kernel
theorem d_X12_spelt_49 : decode i_X12_spelt.2.1 49 = .ok (.ireturn, 1) := by decide +kernel
def V_X12_spelt (x0 : Nat) (x1 : Int) (x2 : Int) (h : Hp) (Q : Int → Hp → Prop) : Prop :=
  hK h x0 = 11 ∧ C_X12_isWord x0 x1 h (fun r2 h1 => ((r2 ≠ 0 → (C_X12_is x2 0 7 h1 (fun r4 h3 => ((r4 ≠ 0 → (hK h3 x0 = 11 ∧ ((hK h3 (hR h3 x0 12) = 12 ∧ (0 : Int) ≤ x1 ∧ x1 < hL h3 (hR h3 x0 12)) ∧ ((hI h3 (hR h3 x0 12) x1 ≤ x2 → (Q (-1) h3)) ∧ (¬ hI h3 (hR h3 x0 12) x1 ≤ x2 → (hK h3 x0 = 11 ∧ (((-2147483648 : Int) ≤ 8 * x1 ∧ 8 * x1 ≤ (2147483647 : Int)) ∧ (((-2147483648 : Int) ≤ (8 * x1) + x2 ∧ (8 * x1) + x2 ≤ (2147483647 : Int)) ∧ ((hK h3 (hR h3 x0 13) = 12 ∧ (0 : Int) ≤ (8 * x1) + x2 ∧ (8 * x1) + x2 < hL h3 (hR h3 x0 13)) ∧ (Q (hI h3 (hR h3 x0 13) ((8 * x1) + x2)) h3)))))))))) ∧ (r4 = 0 → (Q (-1000000002) h3)))))) ∧ (r2 = 0 → (Q (-1000000001) h1))))
theorem G_X12_spelt {x0 : Nat} {x1 : Int} {x2 : Int} (h : Hp) (Q : Int → Hp → Prop) (hV : V_X12_spelt x0 x1 x2 h Q) : C_X12_spelt x0 x1 x2 h Q := by
  unfold V_X12_spelt at hV
  show Go i_X12_spelt 0 [(0, .inr (.inr x0)), (1, .inl x1), (2, .inl x2)] [] h (qI Q)
  refine s_aload_n d_X12_spelt_0 rfl (ma 0 rfl) ?_
  refine s_iload_n d_X12_spelt_1 rfl (ma 1 rfl) ?_
  obtain ⟨o, hV⟩ := hV
  refine v_RX12_178 rfl (Nat.le_of_ble_eq_true rfl) d_X12_spelt_2 o (Nat.le_of_ble_eq_true rfl) hV (fun r2 h1 hV => ?_)
  refine s_if_ne (tgt := 11) d_X12_spelt_5 (by decide) (fun c => ?_) (fun c => ?_)
  · have hV := hV.1 c
    refine s_iload_n d_X12_spelt_11 rfl (ma 2 rfl) ?_
    refine s_iconst d_X12_spelt_12 (okn rfl) ?_
    refine s_bipush d_X12_spelt_13 (by decide) (okn rfl) ?_
    refine v_RX12_90 rfl (Nat.le_of_ble_eq_true rfl) d_X12_spelt_15 (Nat.le_of_ble_eq_true rfl) hV (fun r4 h3 hV => ?_)
    refine s_if_ne (tgt := 24) d_X12_spelt_18 (by decide) (fun c => ?_) (fun c => ?_)
    · have hV := hV.1 c
      refine s_iload_n d_X12_spelt_24 rfl (ma 2 rfl) ?_
      refine s_aload_n d_X12_spelt_25 rfl (ma 0 rfl) ?_
      obtain ⟨o, hV⟩ := hV
      refine f_RX12_26g rfl d_X12_spelt_26 o ?_
      refine s_iload_n d_X12_spelt_29 rfl (ma 1 rfl) ?_
      obtain ⟨o, hV⟩ := hV
      refine s_iald d_X12_spelt_30 o.1 o.2.1 o.2.2 ?_
      refine s_icmp_ge (tgt := 48) d_X12_spelt_31 (by decide) (fun c => ?_) (fun c => ?_)
      · have hV := hV.1 c
        refine s_iconst d_X12_spelt_48 (okn rfl) ?_
        exact s_iret d_X12_spelt_49 rfl rfl ⟨_, rfl, hV⟩
      · have hV := hV.2 c
        refine s_aload_n d_X12_spelt_34 rfl (ma 0 rfl) ?_
        obtain ⟨o, hV⟩ := hV
        refine f_RX12_29g rfl d_X12_spelt_35 o ?_
        refine s_bipush d_X12_spelt_38 (by decide) (okn rfl) ?_
        refine s_iload_n d_X12_spelt_40 rfl (ma 1 rfl) ?_
        obtain ⟨o, hV⟩ := hV
        refine s_imul d_X12_spelt_41 o ?_
        refine s_iload_n d_X12_spelt_42 rfl (ma 2 rfl) ?_
        obtain ⟨o, hV⟩ := hV
        refine s_iadd d_X12_spelt_43 o ?_
        obtain ⟨o, hV⟩ := hV
        refine s_iald d_X12_spelt_44 o.1 o.2.1 o.2.2 ?_
        refine s_goto (tgt := 49) d_X12_spelt_45 (by decide) ?_
        exact s_iret d_X12_spelt_49 rfl rfl ⟨_, rfl, hV⟩
    · have hV := hV.2 c
      refine s_ldc (n := (-1000000002)) d_X12_spelt_21 k_RX12_94 (by decide) (okn rfl) ?_
      exact s_iret d_X12_spelt_23 rfl rfl ⟨_, rfl, hV⟩
  · have hV := hV.2 c
    refine s_ldc (n := (-1000000001)) d_X12_spelt_8 k_RX12_181 (by decide) (okn rfl) ?_
    exact s_iret d_X12_spelt_10 rfl rfl ⟨_, rfl, hV⟩

theorem d_X12_logged_0 : decode i_X12_logged.2.1 0 = .ok (.iload_n 2, 1) := by decide +kernel
theorem d_X12_logged_1 : decode i_X12_logged.2.1 1 = .ok (.iconst 0, 1) := by decide +kernel
theorem d_X12_logged_2 : decode i_X12_logged.2.1 2 = .ok (.iconst 1, 1) := by decide +kernel
theorem d_X12_logged_3 : decode i_X12_logged.2.1 3 = .ok (.invokestatic 90, 3) := by decide +kernel
theorem d_X12_logged_6 : decode i_X12_logged.2.1 6 = .ok (.ifCond .ne 6, 3) := by decide +kernel
theorem d_X12_logged_9 : decode i_X12_logged.2.1 9 = .ok (.ldc 94, 2) := by decide +kernel
theorem d_X12_logged_11 : decode i_X12_logged.2.1 11 = .ok (.ireturn, 1) := by decide +kernel
theorem d_X12_logged_12 : decode i_X12_logged.2.1 12 = .ok (.iload_n 1, 1) := by decide +kernel
theorem d_X12_logged_13 : decode i_X12_logged.2.1 13 = .ok (.iconst 0, 1) := by decide +kernel
theorem d_X12_logged_14 : decode i_X12_logged.2.1 14 = .ok (.aload_n 0, 1) := by decide +kernel
theorem d_X12_logged_15 : decode i_X12_logged.2.1 15 = .ok (.getfield 32, 3) := by decide +kernel
theorem d_X12_logged_18 : decode i_X12_logged.2.1 18 = .ok (.iconst 2, 1) := by decide +kernel
theorem d_X12_logged_19 : decode i_X12_logged.2.1 19 = .ok (.iaload, 1) := by decide +kernel
theorem d_X12_logged_20 : decode i_X12_logged.2.1 20 = .ok (.iconst 1, 1) := by decide +kernel
theorem d_X12_logged_21 : decode i_X12_logged.2.1 21 = .ok (.isub, 1) := by decide +kernel
theorem d_X12_logged_22 : decode i_X12_logged.2.1 22 = .ok (.invokestatic 90, 3) := by decide +kernel
theorem d_X12_logged_25 : decode i_X12_logged.2.1 25 = .ok (.ifCond .eq 24, 3) := by decide +kernel
theorem d_X12_logged_28 : decode i_X12_logged.2.1 28 = .ok (.aload_n 0, 1) := by decide +kernel
theorem d_X12_logged_29 : decode i_X12_logged.2.1 29 = .ok (.getfield 32, 3) := by decide +kernel
theorem d_X12_logged_32 : decode i_X12_logged.2.1 32 = .ok (.iload_n 2, 1) := by decide +kernel
theorem d_X12_logged_33 : decode i_X12_logged.2.1 33 = .ok (.ifCond .ne 8, 3) := by decide +kernel
theorem d_X12_logged_36 : decode i_X12_logged.2.1 36 = .ok (.bipush 63, 2) := by decide +kernel
theorem d_X12_logged_38 : decode i_X12_logged.2.1 38 = .ok (.goto 5, 3) := by decide +kernel
theorem d_X12_logged_41 : decode i_X12_logged.2.1 41 = .ok (.bipush 83, 2) := by decide +kernel
theorem d_X12_logged_43 : decode i_X12_logged.2.1 43 = .ok (.iload_n 1, 1) := by decide +kernel
theorem d_X12_logged_44 : decode i_X12_logged.2.1 44 = .ok (.iadd, 1) := by decide +kernel
theorem d_X12_logged_45 : decode i_X12_logged.2.1 45 = .ok (.iaload, 1) := by decide +kernel
theorem d_X12_logged_46 : decode i_X12_logged.2.1 46 = .ok (.goto 4, 3) := by decide +kernel
theorem d_X12_logged_49 : decode i_X12_logged.2.1 49 = .ok (.iconst (-1), 1) := by decide +kernel
theorem d_X12_logged_50 : decode i_X12_logged.2.1 50 = .ok (.ireturn, 1) := by decide +kernel
def V_X12_logged (x0 : Nat) (x1 : Int) (x2 : Int) (h : Hp) (Q : Int → Hp → Prop) : Prop :=
  C_X12_is x2 0 1 h (fun r2 h1 => ((r2 ≠ 0 → (hK h1 x0 = 11 ∧ ((hK h1 (hR h1 x0 14) = 12 ∧ (0 : Int) ≤ 2 ∧ 2 < hL h1 (hR h1 x0 14)) ∧ (((-2147483648 : Int) ≤ (hI h1 (hR h1 x0 14) 2) - 1 ∧ (hI h1 (hR h1 x0 14) 2) - 1 ≤ (2147483647 : Int)) ∧ (C_X12_is x1 0 ((hI h1 (hR h1 x0 14) 2) - 1) h1 (fun r4 h3 => ((r4 = 0 → (Q (-1) h3)) ∧ (¬ r4 = 0 → (hK h3 x0 = 11 ∧ ((x2 ≠ 0 → (((-2147483648 : Int) ≤ 83 + x1 ∧ 83 + x1 ≤ (2147483647 : Int)) ∧ ((hK h3 (hR h3 x0 14) = 12 ∧ (0 : Int) ≤ 83 + x1 ∧ 83 + x1 < hL h3 (hR h3 x0 14)) ∧ (Q (hI h3 (hR h3 x0 14) (83 + x1)) h3)))) ∧ (x2 = 0 → (((-2147483648 : Int) ≤ 63 + x1 ∧ 63 + x1 ≤ (2147483647 : Int)) ∧ ((hK h3 (hR h3 x0 14) = 12 ∧ (0 : Int) ≤ 63 + x1 ∧ 63 + x1 < hL h3 (hR h3 x0 14)) ∧ (Q (hI h3 (hR h3 x0 14) (63 + x1)) h3)))))))))))))) ∧ (r2 = 0 → (Q (-1000000002) h1))))
theorem G_X12_logged {x0 : Nat} {x1 : Int} {x2 : Int} (h : Hp) (Q : Int → Hp → Prop) (hV : V_X12_logged x0 x1 x2 h Q) : C_X12_logged x0 x1 x2 h Q := by
  unfold V_X12_logged at hV
  show Go i_X12_logged 0 [(0, .inr (.inr x0)), (1, .inl x1), (2, .inl x2)] [] h (qI Q)
  refine s_iload_n d_X12_logged_0 rfl (ma 2 rfl) ?_
  refine s_iconst d_X12_logged_1 (okn rfl) ?_
  refine s_iconst d_X12_logged_2 (okn rfl) ?_
  refine v_RX12_90 rfl (Nat.le_of_ble_eq_true rfl) d_X12_logged_3 (Nat.le_of_ble_eq_true rfl) hV (fun r2 h1 hV => ?_)
  refine s_if_ne (tgt := 12) d_X12_logged_6 (by decide) (fun c => ?_) (fun c => ?_)
  · have hV := hV.1 c
    refine s_iload_n d_X12_logged_12 rfl (ma 1 rfl) ?_
    refine s_iconst d_X12_logged_13 (okn rfl) ?_
    refine s_aload_n d_X12_logged_14 rfl (ma 0 rfl) ?_
    obtain ⟨o, hV⟩ := hV
    refine f_RX12_32g rfl d_X12_logged_15 o ?_
    refine s_iconst d_X12_logged_18 (okn rfl) ?_
    obtain ⟨o, hV⟩ := hV
    refine s_iald d_X12_logged_19 o.1 o.2.1 o.2.2 ?_
    refine s_iconst d_X12_logged_20 (okn rfl) ?_
    obtain ⟨o, hV⟩ := hV
    refine s_isub d_X12_logged_21 o ?_
    refine v_RX12_90 rfl (Nat.le_of_ble_eq_true rfl) d_X12_logged_22 (Nat.le_of_ble_eq_true rfl) hV (fun r4 h3 hV => ?_)
    refine s_if_eq (tgt := 49) d_X12_logged_25 (by decide) (fun c => ?_) (fun c => ?_)
    · have hV := hV.1 c
      refine s_iconst d_X12_logged_49 (okn rfl) ?_
      exact s_iret d_X12_logged_50 rfl rfl ⟨_, rfl, hV⟩
    · have hV := hV.2 c
      refine s_aload_n d_X12_logged_28 rfl (ma 0 rfl) ?_
      obtain ⟨o, hV⟩ := hV
      refine f_RX12_32g rfl d_X12_logged_29 o ?_
      refine s_iload_n d_X12_logged_32 rfl (ma 2 rfl) ?_
      refine s_if_ne (tgt := 41) d_X12_logged_33 (by decide) (fun c => ?_) (fun c => ?_)
      · have hV := hV.1 c
        refine s_bipush d_X12_logged_41 (by decide) (okn rfl) ?_
        refine s_iload_n d_X12_logged_43 rfl (ma 1 rfl) ?_
        obtain ⟨o, hV⟩ := hV
        refine s_iadd d_X12_logged_44 o ?_
        obtain ⟨o, hV⟩ := hV
        refine s_iald d_X12_logged_45 o.1 o.2.1 o.2.2 ?_
        refine s_goto (tgt := 50) d_X12_logged_46 (by decide) ?_
        exact s_iret d_X12_logged_50 rfl rfl ⟨_, rfl, hV⟩
      · have hV := hV.2 c
        refine s_bipush d_X12_logged_36 (by decide) (okn rfl) ?_
        refine s_goto (tgt := 43) d_X12_logged_38 (by decide) ?_
        refine s_iload_n d_X12_logged_43 rfl (ma 1 rfl) ?_
        obtain ⟨o, hV⟩ := hV
        refine s_iadd d_X12_logged_44 o ?_
        obtain ⟨o, hV⟩ := hV
        refine s_iald d_X12_logged_45 o.1 o.2.1 o.2.2 ?_
        refine s_goto (tgt := 50) d_X12_logged_46 (by decide) ?_
        exact s_iret d_X12_logged_50 rfl rfl ⟨_, rfl, hV⟩
  · have hV := hV.2 c
    refine s_ldc (n := (-1000000002)) d_X12_logged_9 k_RX12_94 (by decide) (okn rfl) ?_
    exact s_iret d_X12_logged_11 rfl rfl ⟨_, rfl, hV⟩

theorem d_X12_say_0 : decode i_X12_say.2.1 0 = .ok (.aload_n 0, 1) := by decide +kernel
theorem d_X12_say_1 : decode i_X12_say.2.1 1 = .ok (.getfield 66, 3) := by decide +kernel
theorem d_X12_say_4 : decode i_X12_say.2.1 4 = .ok (.aload_n 0, 1) := by decide +kernel
theorem d_X12_say_5 : decode i_X12_say.2.1 5 = .ok (.getfield 113, 3) := by decide +kernel
theorem d_X12_say_8 : decode i_X12_say.2.1 8 = .ok (.iload_n 1, 1) := by decide +kernel
theorem d_X12_say_9 : decode i_X12_say.2.1 9 = .ok (.iastore, 1) := by decide +kernel
theorem d_X12_say_10 : decode i_X12_say.2.1 10 = .ok (.aload_n 0, 1) := by decide +kernel
theorem d_X12_say_11 : decode i_X12_say.2.1 11 = .ok (.dup, 1) := by decide +kernel
theorem d_X12_say_12 : decode i_X12_say.2.1 12 = .ok (.getfield 113, 3) := by decide +kernel
theorem d_X12_say_15 : decode i_X12_say.2.1 15 = .ok (.iconst 1, 1) := by decide +kernel
theorem d_X12_say_16 : decode i_X12_say.2.1 16 = .ok (.iadd, 1) := by decide +kernel
theorem d_X12_say_17 : decode i_X12_say.2.1 17 = .ok (.putfield 113, 3) := by decide +kernel
theorem d_X12_say_20 : decode i_X12_say.2.1 20 = .ok (.return_, 1) := by decide +kernel
def V_X12_say (x0 : Nat) (x1 : Int) (h : Hp) (Q : Hp → Prop) : Prop :=
  hK h x0 = 11 ∧ (hK h x0 = 11 ∧ ((hK h (hR h x0 30) = 12 ∧ (0 : Int) ≤ hI h x0 31 ∧ hI h x0 31 < hL h (hR h x0 30)) ∧ ∀ h1 : Hp, h1 = wI h (hR h x0 30) (hI h x0 31) x1 → (hK h1 x0 = 11 ∧ (((-2147483648 : Int) ≤ (hI h1 x0 31) + 1 ∧ (hI h1 x0 31) + 1 ≤ (2147483647 : Int)) ∧ (hK h1 x0 = 11 ∧ ∀ h2 : Hp, h2 = wI h1 x0 31 ((hI h1 x0 31) + 1) → (Q h2))))))
theorem G_X12_say {x0 : Nat} {x1 : Int} (h : Hp) (Q : Hp → Prop) (hV : V_X12_say x0 x1 h Q) : C_X12_say x0 x1 h Q := by
  unfold V_X12_say at hV
  show Go i_X12_say 0 [(0, .inr (.inr x0)), (1, .inl x1)] [] h (qV Q)
  refine s_aload_n d_X12_say_0 rfl (ma 0 rfl) ?_
  obtain ⟨o, hV⟩ := hV
  refine f_RX12_66g rfl d_X12_say_1 o ?_
  refine s_aload_n d_X12_say_4 rfl (ma 0 rfl) ?_
  obtain ⟨o, hV⟩ := hV
  refine f_RX12_113g rfl d_X12_say_5 o ?_
  refine s_iload_n d_X12_say_8 rfl (ma 1 rfl) ?_
  obtain ⟨o, hV⟩ := hV
  refine s_iast d_X12_say_9 o.1 o.2.1 o.2.2 ?_
  refine s_nmH (fun h1 eh1 => ?_)
  have hV := hV h1 eh1
  refine s_aload_n d_X12_say_10 rfl (ma 0 rfl) ?_
  refine s_dup d_X12_say_11 rfl ?_
  obtain ⟨o, hV⟩ := hV
  refine f_RX12_113g rfl d_X12_say_12 o ?_
  refine s_iconst d_X12_say_15 (okn rfl) ?_
  obtain ⟨o, hV⟩ := hV
  refine s_iadd d_X12_say_16 o ?_
  obtain ⟨o, hV⟩ := hV
  refine f_RX12_113p rfl d_X12_say_17 o (fun h2 eh2 => ?_)
  have hV := hV h2 eh2
  exact s_vret d_X12_say_20 rfl ⟨rfl, hV⟩

theorem d_X12_sayRun_0 : decode i_X12_sayRun.2.1 0 = .ok (.iload_n 1, 1) := by decide +kernel
theorem d_X12_sayRun_1 : decode i_X12_sayRun.2.1 1 = .ok (.iconst 5, 1) := by decide +kernel
theorem d_X12_sayRun_2 : decode i_X12_sayRun.2.1 2 = .ok (.if_icmp .ne 19, 3) := by decide +kernel
theorem d_X12_sayRun_5 : decode i_X12_sayRun.2.1 5 = .ok (.iload_n 2, 1) := by decide +kernel
theorem d_X12_sayRun_6 : decode i_X12_sayRun.2.1 6 = .ok (.iconst 3, 1) := by decide +kernel
theorem d_X12_sayRun_7 : decode i_X12_sayRun.2.1 7 = .ok (.if_icmp .lt 14, 3) := by decide +kernel
theorem d_X12_sayRun_10 : decode i_X12_sayRun.2.1 10 = .ok (.aload_n 0, 1) := by decide +kernel
theorem d_X12_sayRun_11 : decode i_X12_sayRun.2.1 11 = .ok (.iconst 3, 1) := by decide +kernel
theorem d_X12_sayRun_12 : decode i_X12_sayRun.2.1 12 = .ok (.invokevirtual 182, 3) := by decide +kernel
theorem d_X12_sayRun_15 : decode i_X12_sayRun.2.1 15 = .ok (.aload_n 0, 1) := by decide +kernel
theorem d_X12_sayRun_16 : decode i_X12_sayRun.2.1 16 = .ok (.iload_n 3, 1) := by decide +kernel
theorem d_X12_sayRun_17 : decode i_X12_sayRun.2.1 17 = .ok (.invokevirtual 182, 3) := by decide +kernel
theorem d_X12_sayRun_20 : decode i_X12_sayRun.2.1 20 = .ok (.return_, 1) := by decide +kernel
theorem d_X12_sayRun_21 : decode i_X12_sayRun.2.1 21 = .ok (.iload_n 2, 1) := by decide +kernel
theorem d_X12_sayRun_22 : decode i_X12_sayRun.2.1 22 = .ok (.istore 4, 2) := by decide +kernel
theorem d_X12_sayRun_24 : decode i_X12_sayRun.2.1 24 = .ok (.iload 4, 2) := by decide +kernel
theorem d_X12_sayRun_26 : decode i_X12_sayRun.2.1 26 = .ok (.ifCond .le 70, 3) := by decide +kernel
theorem d_X12_sayRun_29 : decode i_X12_sayRun.2.1 29 = .ok (.iload 4, 2) := by decide +kernel
theorem d_X12_sayRun_31 : decode i_X12_sayRun.2.1 31 = .ok (.bipush 9, 2) := by decide +kernel
theorem d_X12_sayRun_33 : decode i_X12_sayRun.2.1 33 = .ok (.if_icmp .le 8, 3) := by decide +kernel
theorem d_X12_sayRun_36 : decode i_X12_sayRun.2.1 36 = .ok (.bipush 9, 2) := by decide +kernel
theorem d_X12_sayRun_38 : decode i_X12_sayRun.2.1 38 = .ok (.goto 5, 3) := by decide +kernel
theorem d_X12_sayRun_41 : decode i_X12_sayRun.2.1 41 = .ok (.iload 4, 2) := by decide +kernel
theorem d_X12_sayRun_43 : decode i_X12_sayRun.2.1 43 = .ok (.istore 5, 2) := by decide +kernel
theorem d_X12_sayRun_45 : decode i_X12_sayRun.2.1 45 = .ok (.iload_n 1, 1) := by decide +kernel
theorem d_X12_sayRun_46 : decode i_X12_sayRun.2.1 46 = .ok (.iconst 1, 1) := by decide +kernel
theorem d_X12_sayRun_47 : decode i_X12_sayRun.2.1 47 = .ok (.if_icmp .ne 17, 3) := by decide +kernel
theorem d_X12_sayRun_50 : decode i_X12_sayRun.2.1 50 = .ok (.aload_n 0, 1) := by decide +kernel
theorem d_X12_sayRun_51 : decode i_X12_sayRun.2.1 51 = .ok (.iload_n 3, 1) := by decide +kernel
theorem d_X12_sayRun_52 : decode i_X12_sayRun.2.1 52 = .ok (.invokevirtual 182, 3) := by decide +kernel
theorem d_X12_sayRun_55 : decode i_X12_sayRun.2.1 55 = .ok (.aload_n 0, 1) := by decide +kernel
theorem d_X12_sayRun_56 : decode i_X12_sayRun.2.1 56 = .ok (.iload 5, 2) := by decide +kernel
theorem d_X12_sayRun_58 : decode i_X12_sayRun.2.1 58 = .ok (.invokevirtual 182, 3) := by decide +kernel
theorem d_X12_sayRun_61 : decode i_X12_sayRun.2.1 61 = .ok (.goto 25, 3) := by decide +kernel
theorem d_X12_sayRun_64 : decode i_X12_sayRun.2.1 64 = .ok (.iload_n 1, 1) := by decide +kernel
theorem d_X12_sayRun_65 : decode i_X12_sayRun.2.1 65 = .ok (.iconst 4, 1) := by decide +kernel
theorem d_X12_sayRun_66 : decode i_X12_sayRun.2.1 66 = .ok (.if_icmp .ne 9, 3) := by decide +kernel
theorem d_X12_sayRun_69 : decode i_X12_sayRun.2.1 69 = .ok (.iload 5, 2) := by decide +kernel
theorem d_X12_sayRun_71 : decode i_X12_sayRun.2.1 71 = .ok (.iconst 1, 1) := by decide +kernel
theorem d_X12_sayRun_72 : decode i_X12_sayRun.2.1 72 = .ok (.if_icmp .le 9, 3) := by decide +kernel
theorem d_X12_sayRun_75 : decode i_X12_sayRun.2.1 75 = .ok (.aload_n 0, 1) := by decide +kernel
theorem d_X12_sayRun_76 : decode i_X12_sayRun.2.1 76 = .ok (.iload 5, 2) := by decide +kernel
theorem d_X12_sayRun_78 : decode i_X12_sayRun.2.1 78 = .ok (.invokevirtual 182, 3) := by decide +kernel
theorem d_X12_sayRun_81 : decode i_X12_sayRun.2.1 81 = .ok (.aload_n 0, 1) := by decide +kernel
theorem d_X12_sayRun_82 : decode i_X12_sayRun.2.1 82 = .ok (.iload_n 3, 1) := by decide +kernel
theorem d_X12_sayRun_83 : decode i_X12_sayRun.2.1 83 = .ok (.invokevirtual 182, 3) := by decide +kernel
theorem d_X12_sayRun_86 : decode i_X12_sayRun.2.1 86 = .ok (.iload 4, 2) := by decide +kernel
theorem d_X12_sayRun_88 : decode i_X12_sayRun.2.1 88 = .ok (.iload 5, 2) := by decide +kernel
theorem d_X12_sayRun_90 : decode i_X12_sayRun.2.1 90 = .ok (.isub, 1) := by decide +kernel
theorem d_X12_sayRun_91 : decode i_X12_sayRun.2.1 91 = .ok (.istore 4, 2) := by decide +kernel
theorem d_X12_sayRun_93 : decode i_X12_sayRun.2.1 93 = .ok (.goto (-69), 3) := by decide +kernel
theorem d_X12_sayRun_96 : decode i_X12_sayRun.2.1 96 = .ok (.return_, 1) := by decide +kernel
def J_X12_sayRun_81 (P24 : Int → Hp → Prop) (x0 : Nat) (x1 : Int) (x3 : Int) (x4 : Int) (x5 : Int) (h : Hp) (Q : Hp → Prop) : Prop :=
  hK h x0 = 11 ∧ C_X12_say x0 x3 h (fun h1 => (((-2147483648 : Int) ≤ x4 - x5 ∧ x4 - x5 ≤ (2147483647 : Int)) ∧ (∀ x4_2 : Int, x4_2 = x4 - x5 → (P24 x4_2 h1))))
theorem GJ_X12_sayRun_81 {P24 : Int → Hp → Prop} (x0 : Nat) (x1 : Int) (x3 : Int) (x4 : Int) (x5 : Int) (h : Hp) (Q : Hp → Prop) (hP24 : ∀ (m4 : Int) (h : Hp), P24 m4 h → Go i_X12_sayRun 24 [(0, .inr (.inr x0)), (1, .inl x1), (3, .inl x3), (4, .inl m4)] [] h (qV Q)) (hV : J_X12_sayRun_81 P24 x0 x1 x3 x4 x5 h Q) : Go i_X12_sayRun 81 [(0, .inr (.inr x0)), (1, .inl x1), (3, .inl x3), (4, .inl x4), (5, .inl x5)] [] h (qV Q) := by
  unfold J_X12_sayRun_81 at hV
  refine s_aload_n d_X12_sayRun_81 rfl (ma 0 rfl) ?_
  refine s_iload_n d_X12_sayRun_82 rfl (ma 2 rfl) ?_
  obtain ⟨o, hV⟩ := hV
  refine v_RX12_182 rfl (Nat.le_of_ble_eq_true rfl) d_X12_sayRun_83 o (Nat.le_of_ble_eq_true rfl) hV (fun h1 hV => ?_)
  refine s_iload d_X12_sayRun_86 (ma 3 rfl) ?_
  refine s_iload d_X12_sayRun_88 (ma 4 rfl) ?_
  obtain ⟨o, hV⟩ := hV
  refine s_isub d_X12_sayRun_90 o ?_
  refine s_nmI (fun x4_2 ex4_2 => ?_)
  have hV := hV x4_2 ex4_2
  refine s_istore (lv' := [(4, .inl x4_2), (0, .inr (.inr x0)), (1, .inl x1), (3, .inl x3), (5, .inl x5)]) d_X12_sayRun_91 (Nat.le_of_ble_eq_true rfl) rfl ?_
  refine s_goto (tgt := 24) d_X12_sayRun_93 (by decide) ?_
  refine s_pick (lv' := [(0, .inr (.inr x0)), (1, .inl x1), (3, .inl x3), (4, .inl x4_2)]) [1, 2, 3, 0] rfl ?_
  exact hP24 _ _ hV
def J_X12_sayRun_75 (P24 : Int → Hp → Prop) (x0 : Nat) (x1 : Int) (x3 : Int) (x4 : Int) (x5 : Int) (h : Hp) (Q : Hp → Prop) : Prop :=
  hK h x0 = 11 ∧ C_X12_say x0 x5 h (fun h1 => (J_X12_sayRun_81 P24 x0 x1 x3 x4 x5 h1 Q))
theorem GJ_X12_sayRun_75 {P24 : Int → Hp → Prop} (x0 : Nat) (x1 : Int) (x3 : Int) (x4 : Int) (x5 : Int) (h : Hp) (Q : Hp → Prop) (hP24 : ∀ (m4 : Int) (h : Hp), P24 m4 h → Go i_X12_sayRun 24 [(0, .inr (.inr x0)), (1, .inl x1), (3, .inl x3), (4, .inl m4)] [] h (qV Q)) (hV : J_X12_sayRun_75 P24 x0 x1 x3 x4 x5 h Q) : Go i_X12_sayRun 75 [(0, .inr (.inr x0)), (1, .inl x1), (3, .inl x3), (4, .inl x4), (5, .inl x5)] [] h (qV Q) := by
  unfold J_X12_sayRun_75 at hV
  refine s_aload_n d_X12_sayRun_75 rfl (ma 0 rfl) ?_
  refine s_iload d_X12_sayRun_76 (ma 4 rfl) ?_
  obtain ⟨o, hV⟩ := hV
  refine v_RX12_182 rfl (Nat.le_of_ble_eq_true rfl) d_X12_sayRun_78 o (Nat.le_of_ble_eq_true rfl) hV (fun h1 hV => ?_)
  exact GJ_X12_sayRun_81 _ _ _ _ _ _ _ (by intros; apply hP24; assumption) hV
def J_X12_sayRun_43 (P24 : Int → Hp → Prop) (x0 : Nat) (x1 : Int) (x3 : Int) (x4 : Int) (y0 : Int) (h : Hp) (Q : Hp → Prop) : Prop :=
  (x1 ≠ 1 → ((x1 ≠ 4 → (J_X12_sayRun_75 P24 x0 x1 x3 x4 y0 h Q)) ∧ (x1 = 4 → ((y0 ≤ 1 → (J_X12_sayRun_81 P24 x0 x1 x3 x4 y0 h Q)) ∧ (¬ y0 ≤ 1 → (J_X12_sayRun_75 P24 x0 x1 x3 x4 y0 h Q)))))) ∧ (x1 = 1 → (hK h x0 = 11 ∧ C_X12_say x0 x3 h (fun h1 => (hK h1 x0 = 11 ∧ C_X12_say x0 y0 h1 (fun h2 => (((-2147483648 : Int) ≤ x4 - y0 ∧ x4 - y0 ≤ (2147483647 : Int)) ∧ (∀ x4_3 : Int, x4_3 = x4 - y0 → (P24 x4_3 h2))))))))
theorem GJ_X12_sayRun_43 {P24 : Int → Hp → Prop} (x0 : Nat) (x1 : Int) (x3 : Int) (x4 : Int) (y0 : Int) (h : Hp) (Q : Hp → Prop) (hP24 : ∀ (m4 : Int) (h : Hp), P24 m4 h → Go i_X12_sayRun 24 [(0, .inr (.inr x0)), (1, .inl x1), (3, .inl x3), (4, .inl m4)] [] h (qV Q)) (hV : J_X12_sayRun_43 P24 x0 x1 x3 x4 y0 h Q) : Go i_X12_sayRun 43 [(0, .inr (.inr x0)), (1, .inl x1), (3, .inl x3), (4, .inl x4)] [.inl y0] h (qV Q) := by
  unfold J_X12_sayRun_43 at hV
  refine s_istore (lv' := [(5, .inl y0), (0, .inr (.inr x0)), (1, .inl x1), (3, .inl x3), (4, .inl x4)]) d_X12_sayRun_43 (Nat.le_of_ble_eq_true rfl) rfl ?_
  refine s_iload_n d_X12_sayRun_45 rfl (ma 2 rfl) ?_
  refine s_iconst d_X12_sayRun_46 (okn rfl) ?_
  refine s_icmp_ne (tgt := 64) d_X12_sayRun_47 (by decide) (fun c => ?_) (fun c => ?_)
  · have hV := hV.1 c
    refine s_iload_n d_X12_sayRun_64 rfl (ma 2 rfl) ?_
    refine s_iconst d_X12_sayRun_65 (okn rfl) ?_
    refine s_icmp_ne (tgt := 75) d_X12_sayRun_66 (by decide) (fun c => ?_) (fun c => ?_)
    · have hV := hV.1 c
      refine s_pick (lv' := [(0, .inr (.inr x0)), (1, .inl x1), (3, .inl x3), (4, .inl x4), (5, .inl y0)]) [1, 2, 3, 4, 0] rfl ?_
      exact GJ_X12_sayRun_75 _ _ _ _ _ _ _ (by intros; apply hP24; assumption) hV
    · have hV := hV.2 c
      refine s_iload d_X12_sayRun_69 (ma 0 rfl) ?_
      refine s_iconst d_X12_sayRun_71 (okn rfl) ?_
      refine s_icmp_le (tgt := 81) d_X12_sayRun_72 (by decide) (fun c => ?_) (fun c => ?_)
      · have hV := hV.1 c
        refine s_pick (lv' := [(0, .inr (.inr x0)), (1, .inl x1), (3, .inl x3), (4, .inl x4), (5, .inl y0)]) [1, 2, 3, 4, 0] rfl ?_
        exact GJ_X12_sayRun_81 _ _ _ _ _ _ _ (by intros; apply hP24; assumption) hV
      · have hV := hV.2 c
        refine s_pick (lv' := [(0, .inr (.inr x0)), (1, .inl x1), (3, .inl x3), (4, .inl x4), (5, .inl y0)]) [1, 2, 3, 4, 0] rfl ?_
        exact GJ_X12_sayRun_75 _ _ _ _ _ _ _ (by intros; apply hP24; assumption) hV
  · have hV := hV.2 c
    refine s_aload_n d_X12_sayRun_50 rfl (ma 1 rfl) ?_
    refine s_iload_n d_X12_sayRun_51 rfl (ma 3 rfl) ?_
    obtain ⟨o, hV⟩ := hV
    refine v_RX12_182 rfl (Nat.le_of_ble_eq_true rfl) d_X12_sayRun_52 o (Nat.le_of_ble_eq_true rfl) hV (fun h1 hV => ?_)
    refine s_aload_n d_X12_sayRun_55 rfl (ma 1 rfl) ?_
    refine s_iload d_X12_sayRun_56 (ma 0 rfl) ?_
    obtain ⟨o, hV⟩ := hV
    refine v_RX12_182 rfl (Nat.le_of_ble_eq_true rfl) d_X12_sayRun_58 o (Nat.le_of_ble_eq_true rfl) hV (fun h2 hV => ?_)
    refine s_goto (tgt := 86) d_X12_sayRun_61 (by decide) ?_
    refine s_iload d_X12_sayRun_86 (ma 4 rfl) ?_
    refine s_iload d_X12_sayRun_88 (ma 0 rfl) ?_
    obtain ⟨o, hV⟩ := hV
    refine s_isub d_X12_sayRun_90 o ?_
    refine s_nmI (fun x4_3 ex4_3 => ?_)
    have hV := hV x4_3 ex4_3
    refine s_istore (lv' := [(4, .inl x4_3), (5, .inl y0), (0, .inr (.inr x0)), (1, .inl x1), (3, .inl x3)]) d_X12_sayRun_91 (Nat.le_of_ble_eq_true rfl) rfl ?_
    refine s_goto (tgt := 24) d_X12_sayRun_93 (by decide) ?_
    refine s_pick (lv' := [(0, .inr (.inr x0)), (1, .inl x1), (3, .inl x3), (4, .inl x4_3)]) [2, 3, 4, 0] rfl ?_
    exact hP24 _ _ hV
def BLp_X12_sayRun_24 (x0 : Nat) (x1 : Int) (x3 : Int) (P24 : Int → Hp → Prop) (x4 : Int) (h : Hp) (Q : Hp → Prop) : Prop :=
  (x4 ≤ 0 → (Q h)) ∧ (¬ x4 ≤ 0 → ((x4 ≤ 9 → (J_X12_sayRun_43 P24 x0 x1 x3 x4 x4 h Q)) ∧ (¬ x4 ≤ 9 → (J_X12_sayRun_43 P24 x0 x1 x3 x4 9 h Q))))
def Lp_X12_sayRun_24 (x0 : Nat) (x1 : Int) (x3 : Int) (x4 : Int) (h : Hp) (Q : Hp → Prop) : Prop := ∀ P24 : Int → Hp → Prop, (∀ (x4 : Int) (h : Hp), BLp_X12_sayRun_24 x0 x1 x3 P24 x4 h Q → P24 x4 h) → P24 x4 h
theorem Lp_X12_sayRun_24_ind {x0 : Nat} {x1 : Int} {x3 : Int} {Q : Hp → Prop} (I : Int → Hp → Prop) (μ : Int → Hp → Nat) (hs : ∀ (P24 : Int → Hp → Prop) (x4 : Int) (h : Hp), I x4 h → (∀ (x4' : Int) (h' : Hp), I x4' h' → μ x4' h' < μ x4 h → P24 x4' h') → BLp_X12_sayRun_24 x0 x1 x3 P24 x4 h Q) : ∀ (x4 : Int) (h : Hp), I x4 h → Lp_X12_sayRun_24 x0 x1 x3 x4 h Q := by
  intro x4 h hI P24 hP
  have key : ∀ (n : Nat) (x4 : Int) (h : Hp), I x4 h → μ x4 h < n → P24 x4 h := by
    intro n
    induction n with
    | zero => intro x4 h _ hl; exact absurd hl (Nat.not_lt_zero _)
    | succ n ih => intro x4 h hi hl; exact hP x4 h (hs P24 x4 h hi (fun x4 h' hi' hl' => ih x4 h' hi' (by omega)))
  exact key _ x4 h hI (Nat.lt_succ_self _)
theorem GLp_X12_sayRun_24 (x0 : Nat) (x1 : Int) (x3 : Int) (x4 : Int) (h : Hp) (Q : Hp → Prop) (hV : Lp_X12_sayRun_24 x0 x1 x3 x4 h Q) : Go i_X12_sayRun 24 [(0, .inr (.inr x0)), (1, .inl x1), (3, .inl x3), (4, .inl x4)] [] h (qV Q) := by
  refine hV (fun x4 h => Go i_X12_sayRun 24 [(0, .inr (.inr x0)), (1, .inl x1), (3, .inl x3), (4, .inl x4)] [] h (qV Q)) (fun x4 h hV => ?_)
  unfold BLp_X12_sayRun_24 at hV
  have hP24 : ∀ (x4 : Int) (h : Hp), Go i_X12_sayRun 24 [(0, .inr (.inr x0)), (1, .inl x1), (3, .inl x3), (4, .inl x4)] [] h (qV Q) → Go i_X12_sayRun 24 [(0, .inr (.inr x0)), (1, .inl x1), (3, .inl x3), (4, .inl x4)] [] h (qV Q) := fun _ h z => z
  refine s_iload d_X12_sayRun_24 (ma 3 rfl) ?_
  refine s_if_le (tgt := 96) d_X12_sayRun_26 (by decide) (fun c => ?_) (fun c => ?_)
  · have hV := hV.1 c
    exact s_vret d_X12_sayRun_96 rfl ⟨rfl, hV⟩
  · have hV := hV.2 c
    refine s_iload d_X12_sayRun_29 (ma 3 rfl) ?_
    refine s_bipush d_X12_sayRun_31 (by decide) (okn rfl) ?_
    refine s_icmp_le (tgt := 41) d_X12_sayRun_33 (by decide) (fun c => ?_) (fun c => ?_)
    · have hV := hV.1 c
      refine s_iload d_X12_sayRun_41 (ma 3 rfl) ?_
      exact GJ_X12_sayRun_43 _ _ _ _ _ _ _ (by intros; apply hP24; assumption) hV
    · have hV := hV.2 c
      refine s_bipush d_X12_sayRun_36 (by decide) (okn rfl) ?_
      refine s_goto (tgt := 43) d_X12_sayRun_38 (by decide) ?_
      exact GJ_X12_sayRun_43 _ _ _ _ _ _ _ (by intros; apply hP24; assumption) hV
def V_X12_sayRun (x0 : Nat) (x1 : Int) (x2 : Int) (x3 : Int) (h : Hp) (Q : Hp → Prop) : Prop :=
  (x1 ≠ 5 → (Lp_X12_sayRun_24 x0 x1 x3 x2 h Q)) ∧ (x1 = 5 → ((x2 < 3 → (Lp_X12_sayRun_24 x0 x1 x3 x2 h Q)) ∧ (¬ x2 < 3 → (hK h x0 = 11 ∧ C_X12_say x0 3 h (fun h1 => (hK h1 x0 = 11 ∧ C_X12_say x0 x3 h1 (fun h2 => (Q h2))))))))
theorem G_X12_sayRun {x0 : Nat} {x1 : Int} {x2 : Int} {x3 : Int} (h : Hp) (Q : Hp → Prop) (hV : V_X12_sayRun x0 x1 x2 x3 h Q) : C_X12_sayRun x0 x1 x2 x3 h Q := by
  unfold V_X12_sayRun at hV
  show Go i_X12_sayRun 0 [(0, .inr (.inr x0)), (1, .inl x1), (2, .inl x2), (3, .inl x3)] [] h (qV Q)
  refine s_iload_n d_X12_sayRun_0 rfl (ma 1 rfl) ?_
  refine s_iconst d_X12_sayRun_1 (okn rfl) ?_
  refine s_icmp_ne (tgt := 21) d_X12_sayRun_2 (by decide) (fun c => ?_) (fun c => ?_)
  · have hV := hV.1 c
    refine s_iload_n d_X12_sayRun_21 rfl (ma 2 rfl) ?_
    refine s_istore (lv' := [(4, .inl x2), (0, .inr (.inr x0)), (1, .inl x1), (2, .inl x2), (3, .inl x3)]) d_X12_sayRun_22 (Nat.le_of_ble_eq_true rfl) rfl ?_
    refine s_pick (lv' := [(0, .inr (.inr x0)), (1, .inl x1), (3, .inl x3), (4, .inl x2)]) [1, 2, 4, 0] rfl ?_
    exact GLp_X12_sayRun_24 _ _ _ _ _ _ hV
  · have hV := hV.2 c
    refine s_iload_n d_X12_sayRun_5 rfl (ma 2 rfl) ?_
    refine s_iconst d_X12_sayRun_6 (okn rfl) ?_
    refine s_icmp_lt (tgt := 21) d_X12_sayRun_7 (by decide) (fun c => ?_) (fun c => ?_)
    · have hV := hV.1 c
      refine s_iload_n d_X12_sayRun_21 rfl (ma 2 rfl) ?_
      refine s_istore (lv' := [(4, .inl x2), (0, .inr (.inr x0)), (1, .inl x1), (2, .inl x2), (3, .inl x3)]) d_X12_sayRun_22 (Nat.le_of_ble_eq_true rfl) rfl ?_
      refine s_pick (lv' := [(0, .inr (.inr x0)), (1, .inl x1), (3, .inl x3), (4, .inl x2)]) [1, 2, 4, 0] rfl ?_
      exact GLp_X12_sayRun_24 _ _ _ _ _ _ hV
    · have hV := hV.2 c
      refine s_aload_n d_X12_sayRun_10 rfl (ma 0 rfl) ?_
      refine s_iconst d_X12_sayRun_11 (okn rfl) ?_
      obtain ⟨o, hV⟩ := hV
      refine v_RX12_182 rfl (Nat.le_of_ble_eq_true rfl) d_X12_sayRun_12 o (Nat.le_of_ble_eq_true rfl) hV (fun h1 hV => ?_)
      refine s_aload_n d_X12_sayRun_15 rfl (ma 0 rfl) ?_
      refine s_iload_n d_X12_sayRun_16 rfl (ma 3 rfl) ?_
      obtain ⟨o, hV⟩ := hV
      refine v_RX12_182 rfl (Nat.le_of_ble_eq_true rfl) d_X12_sayRun_17 o (Nat.le_of_ble_eq_true rfl) hV (fun h2 hV => ?_)
      exact s_vret d_X12_sayRun_20 rfl ⟨rfl, hV⟩

theorem d_X12_sayRuns_0 : decode i_X12_sayRuns.2.1 0 = .ok (.iconst 0, 1) := by decide +kernel
theorem d_X12_sayRuns_1 : decode i_X12_sayRuns.2.1 1 = .ok (.istore_n 2, 1) := by decide +kernel
theorem d_X12_sayRuns_2 : decode i_X12_sayRuns.2.1 2 = .ok (.iload_n 2, 1) := by decide +kernel
theorem d_X12_sayRuns_3 : decode i_X12_sayRuns.2.1 3 = .ok (.aload_n 0, 1) := by decide +kernel
theorem d_X12_sayRuns_4 : decode i_X12_sayRuns.2.1 4 = .ok (.getfield 186, 3) := by decide +kernel
theorem d_X12_sayRuns_7 : decode i_X12_sayRuns.2.1 7 = .ok (.if_icmp .ge 51, 3) := by decide +kernel
theorem d_X12_sayRuns_10 : decode i_X12_sayRuns.2.1 10 = .ok (.iload_n 2, 1) := by decide +kernel
theorem d_X12_sayRuns_11 : decode i_X12_sayRuns.2.1 11 = .ok (.istore_n 3, 1) := by decide +kernel
theorem d_X12_sayRuns_12 : decode i_X12_sayRuns.2.1 12 = .ok (.iload_n 2, 1) := by decide +kernel
theorem d_X12_sayRuns_13 : decode i_X12_sayRuns.2.1 13 = .ok (.aload_n 0, 1) := by decide +kernel
theorem d_X12_sayRuns_14 : decode i_X12_sayRuns.2.1 14 = .ok (.getfield 186, 3) := by decide +kernel
theorem d_X12_sayRuns_17 : decode i_X12_sayRuns.2.1 17 = .ok (.if_icmp .ge 24, 3) := by decide +kernel
theorem d_X12_sayRuns_20 : decode i_X12_sayRuns.2.1 20 = .ok (.aload_n 0, 1) := by decide +kernel
theorem d_X12_sayRuns_21 : decode i_X12_sayRuns.2.1 21 = .ok (.getfield 63, 3) := by decide +kernel
theorem d_X12_sayRuns_24 : decode i_X12_sayRuns.2.1 24 = .ok (.iload_n 2, 1) := by decide +kernel
theorem d_X12_sayRuns_25 : decode i_X12_sayRuns.2.1 25 = .ok (.iaload, 1) := by decide +kernel
theorem d_X12_sayRuns_26 : decode i_X12_sayRuns.2.1 26 = .ok (.aload_n 0, 1) := by decide +kernel
theorem d_X12_sayRuns_27 : decode i_X12_sayRuns.2.1 27 = .ok (.getfield 63, 3) := by decide +kernel
theorem d_X12_sayRuns_30 : decode i_X12_sayRuns.2.1 30 = .ok (.iload_n 3, 1) := by decide +kernel
theorem d_X12_sayRuns_31 : decode i_X12_sayRuns.2.1 31 = .ok (.iaload, 1) := by decide +kernel
theorem d_X12_sayRuns_32 : decode i_X12_sayRuns.2.1 32 = .ok (.if_icmp .ne 9, 3) := by decide +kernel
theorem d_X12_sayRuns_35 : decode i_X12_sayRuns.2.1 35 = .ok (.iinc 2 1, 3) := by decide +kernel
theorem d_X12_sayRuns_38 : decode i_X12_sayRuns.2.1 38 = .ok (.goto (-26), 3) := by decide +kernel
theorem d_X12_sayRuns_41 : decode i_X12_sayRuns.2.1 41 = .ok (.aload_n 0, 1) := by decide +kernel
theorem d_X12_sayRuns_42 : decode i_X12_sayRuns.2.1 42 = .ok (.iload_n 1, 1) := by decide +kernel
theorem d_X12_sayRuns_43 : decode i_X12_sayRuns.2.1 43 = .ok (.iload_n 2, 1) := by decide +kernel
theorem d_X12_sayRuns_44 : decode i_X12_sayRuns.2.1 44 = .ok (.iload_n 3, 1) := by decide +kernel
theorem d_X12_sayRuns_45 : decode i_X12_sayRuns.2.1 45 = .ok (.isub, 1) := by decide +kernel
theorem d_X12_sayRuns_46 : decode i_X12_sayRuns.2.1 46 = .ok (.aload_n 0, 1) := by decide +kernel
theorem d_X12_sayRuns_47 : decode i_X12_sayRuns.2.1 47 = .ok (.getfield 63, 3) := by decide +kernel
theorem d_X12_sayRuns_50 : decode i_X12_sayRuns.2.1 50 = .ok (.iload_n 3, 1) := by decide +kernel
theorem d_X12_sayRuns_51 : decode i_X12_sayRuns.2.1 51 = .ok (.iaload, 1) := by decide +kernel
theorem d_X12_sayRuns_52 : decode i_X12_sayRuns.2.1 52 = .ok (.invokevirtual 189, 3) := by decide +kernel
theorem d_X12_sayRuns_55 : decode i_X12_sayRuns.2.1 55 = .ok (.goto (-53), 3) := by decide +kernel
theorem d_X12_sayRuns_58 : decode i_X12_sayRuns.2.1 58 = .ok (.return_, 1) := by decide +kernel
def J_X12_sayRuns_41 (P2 : Int → Hp → Prop) (x0 : Nat) (x1 : Int) (x2 : Int) (x3 : Int) (h : Hp) (Q : Hp → Prop) : Prop :=
  ((-2147483648 : Int) ≤ x2 - x3 ∧ x2 - x3 ≤ (2147483647 : Int)) ∧ (hK h x0 = 11 ∧ ((hK h (hR h x0 28) = 12 ∧ (0 : Int) ≤ x3 ∧ x3 < hL h (hR h x0 28)) ∧ (hK h x0 = 11 ∧ C_X12_sayRun x0 x1 (x2 - x3) (hI h (hR h x0 28) x3) h (fun h1 => (P2 x2 h1)))))
theorem GJ_X12_sayRuns_41 {P2 : Int → Hp → Prop} (x0 : Nat) (x1 : Int) (x2 : Int) (x3 : Int) (h : Hp) (Q : Hp → Prop) (hP2 : ∀ (m2 : Int) (h : Hp), P2 m2 h → Go i_X12_sayRuns 2 [(0, .inr (.inr x0)), (1, .inl x1), (2, .inl m2)] [] h (qV Q)) (hV : J_X12_sayRuns_41 P2 x0 x1 x2 x3 h Q) : Go i_X12_sayRuns 41 [(0, .inr (.inr x0)), (1, .inl x1), (2, .inl x2), (3, .inl x3)] [] h (qV Q) := by
  unfold J_X12_sayRuns_41 at hV
  refine s_aload_n d_X12_sayRuns_41 rfl (ma 0 rfl) ?_
  refine s_iload_n d_X12_sayRuns_42 rfl (ma 1 rfl) ?_
  refine s_iload_n d_X12_sayRuns_43 rfl (ma 2 rfl) ?_
  refine s_iload_n d_X12_sayRuns_44 rfl (ma 3 rfl) ?_
  obtain ⟨o, hV⟩ := hV
  refine s_isub d_X12_sayRuns_45 o ?_
  refine s_aload_n d_X12_sayRuns_46 rfl (ma 0 rfl) ?_
  obtain ⟨o, hV⟩ := hV
  refine f_RX12_63g rfl d_X12_sayRuns_47 o ?_
  refine s_iload_n d_X12_sayRuns_50 rfl (ma 3 rfl) ?_
  obtain ⟨o, hV⟩ := hV
  refine s_iald d_X12_sayRuns_51 o.1 o.2.1 o.2.2 ?_
  obtain ⟨o, hV⟩ := hV
  refine v_RX12_189 rfl (Nat.le_of_ble_eq_true rfl) d_X12_sayRuns_52 o (Nat.le_of_ble_eq_true rfl) hV (fun h1 hV => ?_)
  refine s_goto (tgt := 2) d_X12_sayRuns_55 (by decide) ?_
  refine s_pick (lv' := [(0, .inr (.inr x0)), (1, .inl x1), (2, .inl x2)]) [0, 1, 2] rfl ?_
  exact hP2 _ _ hV
def BLp_X12_sayRuns_12 (P2 : Int → Hp → Prop) (x0 : Nat) (x1 : Int) (x3 : Int) (P12 : Int → Hp → Prop) (x2 : Int) (h : Hp) (Q : Hp → Prop) : Prop :=
  hK h x0 = 11 ∧ ((hI h x0 29 ≤ x2 → (J_X12_sayRuns_41 P2 x0 x1 x2 x3 h Q)) ∧ (¬ hI h x0 29 ≤ x2 → (hK h x0 = 11 ∧ ((hK h (hR h x0 28) = 12 ∧ (0 : Int) ≤ x2 ∧ x2 < hL h (hR h x0 28)) ∧ (hK h x0 = 11 ∧ ((hK h (hR h x0 28) = 12 ∧ (0 : Int) ≤ x3 ∧ x3 < hL h (hR h x0 28)) ∧ ((hI h (hR h x0 28) x2 ≠ hI h (hR h x0 28) x3 → (J_X12_sayRuns_41 P2 x0 x1 x2 x3 h Q)) ∧ (hI h (hR h x0 28) x2 = hI h (hR h x0 28) x3 → (((-2147483648 : Int) ≤ x2 + 1 ∧ x2 + 1 ≤ (2147483647 : Int)) ∧ (P12 (x2 + 1) h))))))))))
def Lp_X12_sayRuns_12 (P2 : Int → Hp → Prop) (x0 : Nat) (x1 : Int) (x3 : Int) (x2 : Int) (h : Hp) (Q : Hp → Prop) : Prop := ∀ P12 : Int → Hp → Prop, (∀ (x2 : Int) (h : Hp), BLp_X12_sayRuns_12 P2 x0 x1 x3 P12 x2 h Q → P12 x2 h) → P12 x2 h
theorem Lp_X12_sayRuns_12_ind {P2 : Int → Hp → Prop} {x0 : Nat} {x1 : Int} {x3 : Int} {Q : Hp → Prop} (I : Int → Hp → Prop) (μ : Int → Hp → Nat) (hs : ∀ (P12 : Int → Hp → Prop) (x2 : Int) (h : Hp), I x2 h → (∀ (x2' : Int) (h' : Hp), I x2' h' → μ x2' h' < μ x2 h → P12 x2' h') → BLp_X12_sayRuns_12 P2 x0 x1 x3 P12 x2 h Q) : ∀ (x2 : Int) (h : Hp), I x2 h → Lp_X12_sayRuns_12 P2 x0 x1 x3 x2 h Q := by
  intro x2 h hI P12 hP
  have key : ∀ (n : Nat) (x2 : Int) (h : Hp), I x2 h → μ x2 h < n → P12 x2 h := by
    intro n
    induction n with
    | zero => intro x2 h _ hl; exact absurd hl (Nat.not_lt_zero _)
    | succ n ih => intro x2 h hi hl; exact hP x2 h (hs P12 x2 h hi (fun x2 h' hi' hl' => ih x2 h' hi' (by omega)))
  exact key _ x2 h hI (Nat.lt_succ_self _)
theorem GLp_X12_sayRuns_12 {P2 : Int → Hp → Prop} (x0 : Nat) (x1 : Int) (x3 : Int) (x2 : Int) (h : Hp) (Q : Hp → Prop) (hP2 : ∀ (m2 : Int) (h : Hp), P2 m2 h → Go i_X12_sayRuns 2 [(0, .inr (.inr x0)), (1, .inl x1), (2, .inl m2)] [] h (qV Q)) (hV : Lp_X12_sayRuns_12 P2 x0 x1 x3 x2 h Q) : Go i_X12_sayRuns 12 [(0, .inr (.inr x0)), (1, .inl x1), (2, .inl x2), (3, .inl x3)] [] h (qV Q) := by
  refine hV (fun x2 h => Go i_X12_sayRuns 12 [(0, .inr (.inr x0)), (1, .inl x1), (2, .inl x2), (3, .inl x3)] [] h (qV Q)) (fun x2 h hV => ?_)
  unfold BLp_X12_sayRuns_12 at hV
  have hP12 : ∀ (x2 : Int) (h : Hp), Go i_X12_sayRuns 12 [(0, .inr (.inr x0)), (1, .inl x1), (2, .inl x2), (3, .inl x3)] [] h (qV Q) → Go i_X12_sayRuns 12 [(0, .inr (.inr x0)), (1, .inl x1), (2, .inl x2), (3, .inl x3)] [] h (qV Q) := fun _ h z => z
  refine s_iload_n d_X12_sayRuns_12 rfl (ma 2 rfl) ?_
  refine s_aload_n d_X12_sayRuns_13 rfl (ma 0 rfl) ?_
  obtain ⟨o, hV⟩ := hV
  refine f_RX12_186g rfl d_X12_sayRuns_14 o ?_
  refine s_icmp_ge (tgt := 41) d_X12_sayRuns_17 (by decide) (fun c => ?_) (fun c => ?_)
  · have hV := hV.1 c
    exact GJ_X12_sayRuns_41 _ _ _ _ _ _ (by intros; apply hP2; assumption) hV
  · have hV := hV.2 c
    refine s_aload_n d_X12_sayRuns_20 rfl (ma 0 rfl) ?_
    obtain ⟨o, hV⟩ := hV
    refine f_RX12_63g rfl d_X12_sayRuns_21 o ?_
    refine s_iload_n d_X12_sayRuns_24 rfl (ma 2 rfl) ?_
    obtain ⟨o, hV⟩ := hV
    refine s_iald d_X12_sayRuns_25 o.1 o.2.1 o.2.2 ?_
    refine s_aload_n d_X12_sayRuns_26 rfl (ma 0 rfl) ?_
    obtain ⟨o, hV⟩ := hV
    refine f_RX12_63g rfl d_X12_sayRuns_27 o ?_
    refine s_iload_n d_X12_sayRuns_30 rfl (ma 3 rfl) ?_
    obtain ⟨o, hV⟩ := hV
    refine s_iald d_X12_sayRuns_31 o.1 o.2.1 o.2.2 ?_
    refine s_icmp_ne (tgt := 41) d_X12_sayRuns_32 (by decide) (fun c => ?_) (fun c => ?_)
    · have hV := hV.1 c
      exact GJ_X12_sayRuns_41 _ _ _ _ _ _ (by intros; apply hP2; assumption) hV
    · have hV := hV.2 c
      obtain ⟨o, hV⟩ := hV
      refine s_iinc (lv' := [(2, .inl (x2 + 1)), (0, .inr (.inr x0)), (1, .inl x1), (3, .inl x3)]) d_X12_sayRuns_35 (ma 2 rfl) o (Nat.le_of_ble_eq_true rfl) rfl ?_
      refine s_goto (tgt := 12) d_X12_sayRuns_38 (by decide) ?_
      refine s_pick (lv' := [(0, .inr (.inr x0)), (1, .inl x1), (2, .inl (x2 + 1)), (3, .inl x3)]) [1, 2, 0, 3] rfl ?_
      exact hP12 _ _ hV
def BLp_X12_sayRuns_2 (x0 : Nat) (x1 : Int) (P2 : Int → Hp → Prop) (x2 : Int) (h : Hp) (Q : Hp → Prop) : Prop :=
  hK h x0 = 11 ∧ ((hI h x0 29 ≤ x2 → (Q h)) ∧ (¬ hI h x0 29 ≤ x2 → (Lp_X12_sayRuns_12 P2 x0 x1 x2 x2 h Q)))
def Lp_X12_sayRuns_2 (x0 : Nat) (x1 : Int) (x2 : Int) (h : Hp) (Q : Hp → Prop) : Prop := ∀ P2 : Int → Hp → Prop, (∀ (x2 : Int) (h : Hp), BLp_X12_sayRuns_2 x0 x1 P2 x2 h Q → P2 x2 h) → P2 x2 h
theorem Lp_X12_sayRuns_2_ind {x0 : Nat} {x1 : Int} {Q : Hp → Prop} (I : Int → Hp → Prop) (μ : Int → Hp → Nat) (hs : ∀ (P2 : Int → Hp → Prop) (x2 : Int) (h : Hp), I x2 h → (∀ (x2' : Int) (h' : Hp), I x2' h' → μ x2' h' < μ x2 h → P2 x2' h') → BLp_X12_sayRuns_2 x0 x1 P2 x2 h Q) : ∀ (x2 : Int) (h : Hp), I x2 h → Lp_X12_sayRuns_2 x0 x1 x2 h Q := by
  intro x2 h hI P2 hP
  have key : ∀ (n : Nat) (x2 : Int) (h : Hp), I x2 h → μ x2 h < n → P2 x2 h := by
    intro n
    induction n with
    | zero => intro x2 h _ hl; exact absurd hl (Nat.not_lt_zero _)
    | succ n ih => intro x2 h hi hl; exact hP x2 h (hs P2 x2 h hi (fun x2 h' hi' hl' => ih x2 h' hi' (by omega)))
  exact key _ x2 h hI (Nat.lt_succ_self _)
theorem GLp_X12_sayRuns_2 (x0 : Nat) (x1 : Int) (x2 : Int) (h : Hp) (Q : Hp → Prop) (hV : Lp_X12_sayRuns_2 x0 x1 x2 h Q) : Go i_X12_sayRuns 2 [(0, .inr (.inr x0)), (1, .inl x1), (2, .inl x2)] [] h (qV Q) := by
  refine hV (fun x2 h => Go i_X12_sayRuns 2 [(0, .inr (.inr x0)), (1, .inl x1), (2, .inl x2)] [] h (qV Q)) (fun x2 h hV => ?_)
  unfold BLp_X12_sayRuns_2 at hV
  have hP2 : ∀ (x2 : Int) (h : Hp), Go i_X12_sayRuns 2 [(0, .inr (.inr x0)), (1, .inl x1), (2, .inl x2)] [] h (qV Q) → Go i_X12_sayRuns 2 [(0, .inr (.inr x0)), (1, .inl x1), (2, .inl x2)] [] h (qV Q) := fun _ h z => z
  refine s_iload_n d_X12_sayRuns_2 rfl (ma 2 rfl) ?_
  refine s_aload_n d_X12_sayRuns_3 rfl (ma 0 rfl) ?_
  obtain ⟨o, hV⟩ := hV
  refine f_RX12_186g rfl d_X12_sayRuns_4 o ?_
  refine s_icmp_ge (tgt := 58) d_X12_sayRuns_7 (by decide) (fun c => ?_) (fun c => ?_)
  · have hV := hV.1 c
    exact s_vret d_X12_sayRuns_58 rfl ⟨rfl, hV⟩
  · have hV := hV.2 c
    refine s_iload_n d_X12_sayRuns_10 rfl (ma 2 rfl) ?_
    refine s_istore_n (lv' := [(3, .inl x2), (0, .inr (.inr x0)), (1, .inl x1), (2, .inl x2)]) d_X12_sayRuns_11 rfl (Nat.le_of_ble_eq_true rfl) rfl ?_
    refine s_pick (lv' := [(0, .inr (.inr x0)), (1, .inl x1), (2, .inl x2), (3, .inl x2)]) [1, 2, 3, 0] rfl ?_
    exact GLp_X12_sayRuns_12 _ _ _ _ _ _ (by intros; apply hP2; assumption) hV
def V_X12_sayRuns (x0 : Nat) (x1 : Int) (h : Hp) (Q : Hp → Prop) : Prop :=
  Lp_X12_sayRuns_2 x0 x1 0 h Q
theorem G_X12_sayRuns {x0 : Nat} {x1 : Int} (h : Hp) (Q : Hp → Prop) (hV : V_X12_sayRuns x0 x1 h Q) : C_X12_sayRuns x0 x1 h Q := by
  unfold V_X12_sayRuns at hV
  show Go i_X12_sayRuns 0 [(0, .inr (.inr x0)), (1, .inl x1)] [] h (qV Q)
  refine s_iconst d_X12_sayRuns_0 (okn rfl) ?_
  refine s_istore_n (lv' := [(2, .inl 0), (0, .inr (.inr x0)), (1, .inl x1)]) d_X12_sayRuns_1 rfl (Nat.le_of_ble_eq_true rfl) rfl ?_
  refine s_pick (lv' := [(0, .inr (.inr x0)), (1, .inl x1), (2, .inl 0)]) [1, 2, 0] rfl ?_
  exact GLp_X12_sayRuns_2 _ _ _ _ _ hV

theorem d_X12_sayBackward_0 : decode i_X12_sayBackward.2.1 0 = .ok (.aload_n 0, 1) := by decide +kernel
theorem d_X12_sayBackward_1 : decode i_X12_sayBackward.2.1 1 = .ok (.getfield 186, 3) := by decide +kernel
theorem d_X12_sayBackward_4 : decode i_X12_sayBackward.2.1 4 = .ok (.iconst 1, 1) := by decide +kernel
theorem d_X12_sayBackward_5 : decode i_X12_sayBackward.2.1 5 = .ok (.isub, 1) := by decide +kernel
theorem d_X12_sayBackward_6 : decode i_X12_sayBackward.2.1 6 = .ok (.istore_n 1, 1) := by decide +kernel
theorem d_X12_sayBackward_7 : decode i_X12_sayBackward.2.1 7 = .ok (.iload_n 1, 1) := by decide +kernel
theorem d_X12_sayBackward_8 : decode i_X12_sayBackward.2.1 8 = .ok (.ifCond .lt 47, 3) := by decide +kernel
theorem d_X12_sayBackward_11 : decode i_X12_sayBackward.2.1 11 = .ok (.iload_n 1, 1) := by decide +kernel
theorem d_X12_sayBackward_12 : decode i_X12_sayBackward.2.1 12 = .ok (.istore_n 2, 1) := by decide +kernel
theorem d_X12_sayBackward_13 : decode i_X12_sayBackward.2.1 13 = .ok (.iload_n 1, 1) := by decide +kernel
theorem d_X12_sayBackward_14 : decode i_X12_sayBackward.2.1 14 = .ok (.ifCond .lt 24, 3) := by decide +kernel
theorem d_X12_sayBackward_17 : decode i_X12_sayBackward.2.1 17 = .ok (.aload_n 0, 1) := by decide +kernel
theorem d_X12_sayBackward_18 : decode i_X12_sayBackward.2.1 18 = .ok (.getfield 63, 3) := by decide +kernel
theorem d_X12_sayBackward_21 : decode i_X12_sayBackward.2.1 21 = .ok (.iload_n 1, 1) := by decide +kernel
theorem d_X12_sayBackward_22 : decode i_X12_sayBackward.2.1 22 = .ok (.iaload, 1) := by decide +kernel
theorem d_X12_sayBackward_23 : decode i_X12_sayBackward.2.1 23 = .ok (.aload_n 0, 1) := by decide +kernel
theorem d_X12_sayBackward_24 : decode i_X12_sayBackward.2.1 24 = .ok (.getfield 63, 3) := by decide +kernel
theorem d_X12_sayBackward_27 : decode i_X12_sayBackward.2.1 27 = .ok (.iload_n 2, 1) := by decide +kernel
theorem d_X12_sayBackward_28 : decode i_X12_sayBackward.2.1 28 = .ok (.iaload, 1) := by decide +kernel
theorem d_X12_sayBackward_29 : decode i_X12_sayBackward.2.1 29 = .ok (.if_icmp .ne 9, 3) := by decide +kernel
theorem d_X12_sayBackward_32 : decode i_X12_sayBackward.2.1 32 = .ok (.iinc 1 (-1), 3) := by decide +kernel
theorem d_X12_sayBackward_35 : decode i_X12_sayBackward.2.1 35 = .ok (.goto (-22), 3) := by decide +kernel
theorem d_X12_sayBackward_38 : decode i_X12_sayBackward.2.1 38 = .ok (.aload_n 0, 1) := by decide +kernel
theorem d_X12_sayBackward_39 : decode i_X12_sayBackward.2.1 39 = .ok (.iconst 2, 1) := by decide +kernel
theorem d_X12_sayBackward_40 : decode i_X12_sayBackward.2.1 40 = .ok (.iload_n 2, 1) := by decide +kernel
theorem d_X12_sayBackward_41 : decode i_X12_sayBackward.2.1 41 = .ok (.iload_n 1, 1) := by decide +kernel
theorem d_X12_sayBackward_42 : decode i_X12_sayBackward.2.1 42 = .ok (.isub, 1) := by decide +kernel
theorem d_X12_sayBackward_43 : decode i_X12_sayBackward.2.1 43 = .ok (.aload_n 0, 1) := by decide +kernel
theorem d_X12_sayBackward_44 : decode i_X12_sayBackward.2.1 44 = .ok (.getfield 63, 3) := by decide +kernel
theorem d_X12_sayBackward_47 : decode i_X12_sayBackward.2.1 47 = .ok (.iload_n 2, 1) := by decide +kernel
theorem d_X12_sayBackward_48 : decode i_X12_sayBackward.2.1 48 = .ok (.iaload, 1) := by decide +kernel
theorem d_X12_sayBackward_49 : decode i_X12_sayBackward.2.1 49 = .ok (.invokevirtual 189, 3) := by decide +kernel
theorem d_X12_sayBackward_52 : decode i_X12_sayBackward.2.1 52 = .ok (.goto (-45), 3) := by decide +kernel
theorem d_X12_sayBackward_55 : decode i_X12_sayBackward.2.1 55 = .ok (.return_, 1) := by decide +kernel
def J_X12_sayBackward_38 (P7 : Int → Hp → Prop) (x0 : Nat) (x1 : Int) (x2 : Int) (h : Hp) (Q : Hp → Prop) : Prop :=
  ((-2147483648 : Int) ≤ x2 - x1 ∧ x2 - x1 ≤ (2147483647 : Int)) ∧ (hK h x0 = 11 ∧ ((hK h (hR h x0 28) = 12 ∧ (0 : Int) ≤ x2 ∧ x2 < hL h (hR h x0 28)) ∧ (hK h x0 = 11 ∧ C_X12_sayRun x0 2 (x2 - x1) (hI h (hR h x0 28) x2) h (fun h1 => (P7 x1 h1)))))
theorem GJ_X12_sayBackward_38 {P7 : Int → Hp → Prop} (x0 : Nat) (x1 : Int) (x2 : Int) (h : Hp) (Q : Hp → Prop) (hP7 : ∀ (m1 : Int) (h : Hp), P7 m1 h → Go i_X12_sayBackward 7 [(0, .inr (.inr x0)), (1, .inl m1)] [] h (qV Q)) (hV : J_X12_sayBackward_38 P7 x0 x1 x2 h Q) : Go i_X12_sayBackward 38 [(0, .inr (.inr x0)), (1, .inl x1), (2, .inl x2)] [] h (qV Q) := by
  unfold J_X12_sayBackward_38 at hV
  refine s_aload_n d_X12_sayBackward_38 rfl (ma 0 rfl) ?_
  refine s_iconst d_X12_sayBackward_39 (okn rfl) ?_
  refine s_iload_n d_X12_sayBackward_40 rfl (ma 2 rfl) ?_
  refine s_iload_n d_X12_sayBackward_41 rfl (ma 1 rfl) ?_
  obtain ⟨o, hV⟩ := hV
  refine s_isub d_X12_sayBackward_42 o ?_
  refine s_aload_n d_X12_sayBackward_43 rfl (ma 0 rfl) ?_
  obtain ⟨o, hV⟩ := hV
  refine f_RX12_63g rfl d_X12_sayBackward_44 o ?_
  refine s_iload_n d_X12_sayBackward_47 rfl (ma 2 rfl) ?_
  obtain ⟨o, hV⟩ := hV
  refine s_iald d_X12_sayBackward_48 o.1 o.2.1 o.2.2 ?_
  obtain ⟨o, hV⟩ := hV
  refine v_RX12_189 rfl (Nat.le_of_ble_eq_true rfl) d_X12_sayBackward_49 o (Nat.le_of_ble_eq_true rfl) hV (fun h1 hV => ?_)
  refine s_goto (tgt := 7) d_X12_sayBackward_52 (by decide) ?_
  refine s_pick (lv' := [(0, .inr (.inr x0)), (1, .inl x1)]) [0, 1] rfl ?_
  exact hP7 _ _ hV
def BLp_X12_sayBackward_13 (P7 : Int → Hp → Prop) (x0 : Nat) (x2 : Int) (P13 : Int → Hp → Prop) (x1 : Int) (h : Hp) (Q : Hp → Prop) : Prop :=
  (x1 < 0 → (J_X12_sayBackward_38 P7 x0 x1 x2 h Q)) ∧ (¬ x1 < 0 → (hK h x0 = 11 ∧ ((hK h (hR h x0 28) = 12 ∧ (0 : Int) ≤ x1 ∧ x1 < hL h (hR h x0 28)) ∧ (hK h x0 = 11 ∧ ((hK h (hR h x0 28) = 12 ∧ (0 : Int) ≤ x2 ∧ x2 < hL h (hR h x0 28)) ∧ ((hI h (hR h x0 28) x1 ≠ hI h (hR h x0 28) x2 → (J_X12_sayBackward_38 P7 x0 x1 x2 h Q)) ∧ (hI h (hR h x0 28) x1 = hI h (hR h x0 28) x2 → (((-2147483648 : Int) ≤ x1 + (-1) ∧ x1 + (-1) ≤ (2147483647 : Int)) ∧ (P13 (x1 + (-1)) h)))))))))
def Lp_X12_sayBackward_13 (P7 : Int → Hp → Prop) (x0 : Nat) (x2 : Int) (x1 : Int) (h : Hp) (Q : Hp → Prop) : Prop := ∀ P13 : Int → Hp → Prop, (∀ (x1 : Int) (h : Hp), BLp_X12_sayBackward_13 P7 x0 x2 P13 x1 h Q → P13 x1 h) → P13 x1 h
theorem Lp_X12_sayBackward_13_ind {P7 : Int → Hp → Prop} {x0 : Nat} {x2 : Int} {Q : Hp → Prop} (I : Int → Hp → Prop) (μ : Int → Hp → Nat) (hs : ∀ (P13 : Int → Hp → Prop) (x1 : Int) (h : Hp), I x1 h → (∀ (x1' : Int) (h' : Hp), I x1' h' → μ x1' h' < μ x1 h → P13 x1' h') → BLp_X12_sayBackward_13 P7 x0 x2 P13 x1 h Q) : ∀ (x1 : Int) (h : Hp), I x1 h → Lp_X12_sayBackward_13 P7 x0 x2 x1 h Q := by
  intro x1 h hI P13 hP
  have key : ∀ (n : Nat) (x1 : Int) (h : Hp), I x1 h → μ x1 h < n → P13 x1 h := by
    intro n
    induction n with
    | zero => intro x1 h _ hl; exact absurd hl (Nat.not_lt_zero _)
    | succ n ih => intro x1 h hi hl; exact hP x1 h (hs P13 x1 h hi (fun x1 h' hi' hl' => ih x1 h' hi' (by omega)))
  exact key _ x1 h hI (Nat.lt_succ_self _)
theorem GLp_X12_sayBackward_13 {P7 : Int → Hp → Prop} (x0 : Nat) (x2 : Int) (x1 : Int) (h : Hp) (Q : Hp → Prop) (hP7 : ∀ (m1 : Int) (h : Hp), P7 m1 h → Go i_X12_sayBackward 7 [(0, .inr (.inr x0)), (1, .inl m1)] [] h (qV Q)) (hV : Lp_X12_sayBackward_13 P7 x0 x2 x1 h Q) : Go i_X12_sayBackward 13 [(0, .inr (.inr x0)), (1, .inl x1), (2, .inl x2)] [] h (qV Q) := by
  refine hV (fun x1 h => Go i_X12_sayBackward 13 [(0, .inr (.inr x0)), (1, .inl x1), (2, .inl x2)] [] h (qV Q)) (fun x1 h hV => ?_)
  unfold BLp_X12_sayBackward_13 at hV
  have hP13 : ∀ (x1 : Int) (h : Hp), Go i_X12_sayBackward 13 [(0, .inr (.inr x0)), (1, .inl x1), (2, .inl x2)] [] h (qV Q) → Go i_X12_sayBackward 13 [(0, .inr (.inr x0)), (1, .inl x1), (2, .inl x2)] [] h (qV Q) := fun _ h z => z
  refine s_iload_n d_X12_sayBackward_13 rfl (ma 1 rfl) ?_
  refine s_if_lt (tgt := 38) d_X12_sayBackward_14 (by decide) (fun c => ?_) (fun c => ?_)
  · have hV := hV.1 c
    exact GJ_X12_sayBackward_38 _ _ _ _ _ (by intros; apply hP7; assumption) hV
  · have hV := hV.2 c
    refine s_aload_n d_X12_sayBackward_17 rfl (ma 0 rfl) ?_
    obtain ⟨o, hV⟩ := hV
    refine f_RX12_63g rfl d_X12_sayBackward_18 o ?_
    refine s_iload_n d_X12_sayBackward_21 rfl (ma 1 rfl) ?_
    obtain ⟨o, hV⟩ := hV
    refine s_iald d_X12_sayBackward_22 o.1 o.2.1 o.2.2 ?_
    refine s_aload_n d_X12_sayBackward_23 rfl (ma 0 rfl) ?_
    obtain ⟨o, hV⟩ := hV
    refine f_RX12_63g rfl d_X12_sayBackward_24 o ?_
    refine s_iload_n d_X12_sayBackward_27 rfl (ma 2 rfl) ?_
    obtain ⟨o, hV⟩ := hV
    refine s_iald d_X12_sayBackward_28 o.1 o.2.1 o.2.2 ?_
    refine s_icmp_ne (tgt := 38) d_X12_sayBackward_29 (by decide) (fun c => ?_) (fun c => ?_)
    · have hV := hV.1 c
      exact GJ_X12_sayBackward_38 _ _ _ _ _ (by intros; apply hP7; assumption) hV
    · have hV := hV.2 c
      obtain ⟨o, hV⟩ := hV
      refine s_iinc (lv' := [(1, .inl (x1 + (-1))), (0, .inr (.inr x0)), (2, .inl x2)]) d_X12_sayBackward_32 (ma 1 rfl) o (Nat.le_of_ble_eq_true rfl) rfl ?_
      refine s_goto (tgt := 13) d_X12_sayBackward_35 (by decide) ?_
      refine s_pick (lv' := [(0, .inr (.inr x0)), (1, .inl (x1 + (-1))), (2, .inl x2)]) [1, 0, 2] rfl ?_
      exact hP13 _ _ hV
def BLp_X12_sayBackward_7 (x0 : Nat) (P7 : Int → Hp → Prop) (x1 : Int) (h : Hp) (Q : Hp → Prop) : Prop :=
  (x1 < 0 → (Q h)) ∧ (¬ x1 < 0 → (Lp_X12_sayBackward_13 P7 x0 x1 x1 h Q))
def Lp_X12_sayBackward_7 (x0 : Nat) (x1 : Int) (h : Hp) (Q : Hp → Prop) : Prop := ∀ P7 : Int → Hp → Prop, (∀ (x1 : Int) (h : Hp), BLp_X12_sayBackward_7 x0 P7 x1 h Q → P7 x1 h) → P7 x1 h
theorem Lp_X12_sayBackward_7_ind {x0 : Nat} {Q : Hp → Prop} (I : Int → Hp → Prop) (μ : Int → Hp → Nat) (hs : ∀ (P7 : Int → Hp → Prop) (x1 : Int) (h : Hp), I x1 h → (∀ (x1' : Int) (h' : Hp), I x1' h' → μ x1' h' < μ x1 h → P7 x1' h') → BLp_X12_sayBackward_7 x0 P7 x1 h Q) : ∀ (x1 : Int) (h : Hp), I x1 h → Lp_X12_sayBackward_7 x0 x1 h Q := by
  intro x1 h hI P7 hP
  have key : ∀ (n : Nat) (x1 : Int) (h : Hp), I x1 h → μ x1 h < n → P7 x1 h := by
    intro n
    induction n with
    | zero => intro x1 h _ hl; exact absurd hl (Nat.not_lt_zero _)
    | succ n ih => intro x1 h hi hl; exact hP x1 h (hs P7 x1 h hi (fun x1 h' hi' hl' => ih x1 h' hi' (by omega)))
  exact key _ x1 h hI (Nat.lt_succ_self _)
theorem GLp_X12_sayBackward_7 (x0 : Nat) (x1 : Int) (h : Hp) (Q : Hp → Prop) (hV : Lp_X12_sayBackward_7 x0 x1 h Q) : Go i_X12_sayBackward 7 [(0, .inr (.inr x0)), (1, .inl x1)] [] h (qV Q) := by
  refine hV (fun x1 h => Go i_X12_sayBackward 7 [(0, .inr (.inr x0)), (1, .inl x1)] [] h (qV Q)) (fun x1 h hV => ?_)
  unfold BLp_X12_sayBackward_7 at hV
  have hP7 : ∀ (x1 : Int) (h : Hp), Go i_X12_sayBackward 7 [(0, .inr (.inr x0)), (1, .inl x1)] [] h (qV Q) → Go i_X12_sayBackward 7 [(0, .inr (.inr x0)), (1, .inl x1)] [] h (qV Q) := fun _ h z => z
  refine s_iload_n d_X12_sayBackward_7 rfl (ma 1 rfl) ?_
  refine s_if_lt (tgt := 55) d_X12_sayBackward_8 (by decide) (fun c => ?_) (fun c => ?_)
  · have hV := hV.1 c
    exact s_vret d_X12_sayBackward_55 rfl ⟨rfl, hV⟩
  · have hV := hV.2 c
    refine s_iload_n d_X12_sayBackward_11 rfl (ma 1 rfl) ?_
    refine s_istore_n (lv' := [(2, .inl x1), (0, .inr (.inr x0)), (1, .inl x1)]) d_X12_sayBackward_12 rfl (Nat.le_of_ble_eq_true rfl) rfl ?_
    refine s_pick (lv' := [(0, .inr (.inr x0)), (1, .inl x1), (2, .inl x1)]) [1, 2, 0] rfl ?_
    exact GLp_X12_sayBackward_13 _ _ _ _ _ (by intros; apply hP7; assumption) hV
def V_X12_sayBackward (x0 : Nat) (h : Hp) (Q : Hp → Prop) : Prop :=
  hK h x0 = 11 ∧ (((-2147483648 : Int) ≤ (hI h x0 29) - 1 ∧ (hI h x0 29) - 1 ≤ (2147483647 : Int)) ∧ (∀ x1_1 : Int, x1_1 = (hI h x0 29) - 1 → (Lp_X12_sayBackward_7 x0 x1_1 h Q)))
theorem G_X12_sayBackward {x0 : Nat} (h : Hp) (Q : Hp → Prop) (hV : V_X12_sayBackward x0 h Q) : C_X12_sayBackward x0 h Q := by
  unfold V_X12_sayBackward at hV
  show Go i_X12_sayBackward 0 [(0, .inr (.inr x0))] [] h (qV Q)
  refine s_aload_n d_X12_sayBackward_0 rfl (ma 0 rfl) ?_
  obtain ⟨o, hV⟩ := hV
  refine f_RX12_186g rfl d_X12_sayBackward_1 o ?_
  refine s_iconst d_X12_sayBackward_4 (okn rfl) ?_
  obtain ⟨o, hV⟩ := hV
  refine s_isub d_X12_sayBackward_5 o ?_
  refine s_nmI (fun x1_1 ex1_1 => ?_)
  have hV := hV x1_1 ex1_1
  refine s_istore_n (lv' := [(1, .inl x1_1), (0, .inr (.inr x0))]) d_X12_sayBackward_6 rfl (Nat.le_of_ble_eq_true rfl) rfl ?_
  refine s_pick (lv' := [(0, .inr (.inr x0)), (1, .inl x1_1)]) [1, 0] rfl ?_
  exact GLp_X12_sayBackward_7 _ _ _ _ hV

theorem d_X12_sayAll_0 : decode i_X12_sayAll.2.1 0 = .ok (.iconst 0, 1) := by decide +kernel
theorem d_X12_sayAll_1 : decode i_X12_sayAll.2.1 1 = .ok (.istore_n 1, 1) := by decide +kernel
theorem d_X12_sayAll_2 : decode i_X12_sayAll.2.1 2 = .ok (.iload_n 1, 1) := by decide +kernel
theorem d_X12_sayAll_3 : decode i_X12_sayAll.2.1 3 = .ok (.bipush 10, 2) := by decide +kernel
theorem d_X12_sayAll_5 : decode i_X12_sayAll.2.1 5 = .ok (.if_icmp .ge 52, 3) := by decide +kernel
theorem d_X12_sayAll_8 : decode i_X12_sayAll.2.1 8 = .ok (.iconst 0, 1) := by decide +kernel
theorem d_X12_sayAll_9 : decode i_X12_sayAll.2.1 9 = .ok (.istore_n 2, 1) := by decide +kernel
theorem d_X12_sayAll_10 : decode i_X12_sayAll.2.1 10 = .ok (.iconst 0, 1) := by decide +kernel
theorem d_X12_sayAll_11 : decode i_X12_sayAll.2.1 11 = .ok (.istore_n 3, 1) := by decide +kernel
theorem d_X12_sayAll_12 : decode i_X12_sayAll.2.1 12 = .ok (.iload_n 3, 1) := by decide +kernel
theorem d_X12_sayAll_13 : decode i_X12_sayAll.2.1 13 = .ok (.aload_n 0, 1) := by decide +kernel
theorem d_X12_sayAll_14 : decode i_X12_sayAll.2.1 14 = .ok (.getfield 186, 3) := by decide +kernel
theorem d_X12_sayAll_17 : decode i_X12_sayAll.2.1 17 = .ok (.if_icmp .ge 27, 3) := by decide +kernel
theorem d_X12_sayAll_20 : decode i_X12_sayAll.2.1 20 = .ok (.iload_n 2, 1) := by decide +kernel
theorem d_X12_sayAll_21 : decode i_X12_sayAll.2.1 21 = .ok (.aload_n 0, 1) := by decide +kernel
theorem d_X12_sayAll_22 : decode i_X12_sayAll.2.1 22 = .ok (.getfield 63, 3) := by decide +kernel
theorem d_X12_sayAll_25 : decode i_X12_sayAll.2.1 25 = .ok (.iload_n 3, 1) := by decide +kernel
theorem d_X12_sayAll_26 : decode i_X12_sayAll.2.1 26 = .ok (.iaload, 1) := by decide +kernel
theorem d_X12_sayAll_27 : decode i_X12_sayAll.2.1 27 = .ok (.iload_n 1, 1) := by decide +kernel
theorem d_X12_sayAll_28 : decode i_X12_sayAll.2.1 28 = .ok (.if_icmp .ne 7, 3) := by decide +kernel
theorem d_X12_sayAll_31 : decode i_X12_sayAll.2.1 31 = .ok (.iconst 1, 1) := by decide +kernel
theorem d_X12_sayAll_32 : decode i_X12_sayAll.2.1 32 = .ok (.goto 4, 3) := by decide +kernel
theorem d_X12_sayAll_35 : decode i_X12_sayAll.2.1 35 = .ok (.iconst 0, 1) := by decide +kernel
theorem d_X12_sayAll_36 : decode i_X12_sayAll.2.1 36 = .ok (.iadd, 1) := by decide +kernel
theorem d_X12_sayAll_37 : decode i_X12_sayAll.2.1 37 = .ok (.istore_n 2, 1) := by decide +kernel
theorem d_X12_sayAll_38 : decode i_X12_sayAll.2.1 38 = .ok (.iinc 3 1, 3) := by decide +kernel
theorem d_X12_sayAll_41 : decode i_X12_sayAll.2.1 41 = .ok (.goto (-29), 3) := by decide +kernel
theorem d_X12_sayAll_44 : decode i_X12_sayAll.2.1 44 = .ok (.aload_n 0, 1) := by decide +kernel
theorem d_X12_sayAll_45 : decode i_X12_sayAll.2.1 45 = .ok (.iconst 3, 1) := by decide +kernel
theorem d_X12_sayAll_46 : decode i_X12_sayAll.2.1 46 = .ok (.iload_n 2, 1) := by decide +kernel
theorem d_X12_sayAll_47 : decode i_X12_sayAll.2.1 47 = .ok (.iload_n 1, 1) := by decide +kernel
theorem d_X12_sayAll_48 : decode i_X12_sayAll.2.1 48 = .ok (.invokevirtual 189, 3) := by decide +kernel
theorem d_X12_sayAll_51 : decode i_X12_sayAll.2.1 51 = .ok (.iinc 1 1, 3) := by decide +kernel
theorem d_X12_sayAll_54 : decode i_X12_sayAll.2.1 54 = .ok (.goto (-52), 3) := by decide +kernel
theorem d_X12_sayAll_57 : decode i_X12_sayAll.2.1 57 = .ok (.return_, 1) := by decide +kernel
def BLp_X12_sayAll_12 (P2 : Int → Hp → Prop) (x0 : Nat) (x1 : Int) (P12 : Int → Int → Hp → Prop) (x2 : Int) (x3 : Int) (h : Hp) (Q : Hp → Prop) : Prop :=
  hK h x0 = 11 ∧ ((hI h x0 29 ≤ x3 → (hK h x0 = 11 ∧ C_X12_sayRun x0 3 x2 x1 h (fun h1 => (((-2147483648 : Int) ≤ x1 + 1 ∧ x1 + 1 ≤ (2147483647 : Int)) ∧ (P2 (x1 + 1) h1))))) ∧ (¬ hI h x0 29 ≤ x3 → (hK h x0 = 11 ∧ ((hK h (hR h x0 28) = 12 ∧ (0 : Int) ≤ x3 ∧ x3 < hL h (hR h x0 28)) ∧ ((hI h (hR h x0 28) x3 ≠ x1 → (((-2147483648 : Int) ≤ x2 + 0 ∧ x2 + 0 ≤ (2147483647 : Int)) ∧ (∀ x2_2 : Int, x2_2 = x2 + 0 → (((-2147483648 : Int) ≤ x3 + 1 ∧ x3 + 1 ≤ (2147483647 : Int)) ∧ (P12 x2_2 (x3 + 1) h))))) ∧ (hI h (hR h x0 28) x3 = x1 → (((-2147483648 : Int) ≤ x2 + 1 ∧ x2 + 1 ≤ (2147483647 : Int)) ∧ (∀ x2_3 : Int, x2_3 = x2 + 1 → (((-2147483648 : Int) ≤ x3 + 1 ∧ x3 + 1 ≤ (2147483647 : Int)) ∧ (P12 x2_3 (x3 + 1) h))))))))))
def Lp_X12_sayAll_12 (P2 : Int → Hp → Prop) (x0 : Nat) (x1 : Int) (x2 : Int) (x3 : Int) (h : Hp) (Q : Hp → Prop) : Prop := ∀ P12 : Int → Int → Hp → Prop, (∀ (x2 : Int) (x3 : Int) (h : Hp), BLp_X12_sayAll_12 P2 x0 x1 P12 x2 x3 h Q → P12 x2 x3 h) → P12 x2 x3 h
theorem Lp_X12_sayAll_12_ind {P2 : Int → Hp → Prop} {x0 : Nat} {x1 : Int} {Q : Hp → Prop} (I : Int → Int → Hp → Prop) (μ : Int → Int → Hp → Nat) (hs : ∀ (P12 : Int → Int → Hp → Prop) (x2 : Int) (x3 : Int) (h : Hp), I x2 x3 h → (∀ (x2' : Int) (x3' : Int) (h' : Hp), I x2' x3' h' → μ x2' x3' h' < μ x2 x3 h → P12 x2' x3' h') → BLp_X12_sayAll_12 P2 x0 x1 P12 x2 x3 h Q) : ∀ (x2 : Int) (x3 : Int) (h : Hp), I x2 x3 h → Lp_X12_sayAll_12 P2 x0 x1 x2 x3 h Q := by
  intro x2 x3 h hI P12 hP
  have key : ∀ (n : Nat) (x2 : Int) (x3 : Int) (h : Hp), I x2 x3 h → μ x2 x3 h < n → P12 x2 x3 h := by
    intro n
    induction n with
    | zero => intro x2 x3 h _ hl; exact absurd hl (Nat.not_lt_zero _)
    | succ n ih => intro x2 x3 h hi hl; exact hP x2 x3 h (hs P12 x2 x3 h hi (fun x2 x3 h' hi' hl' => ih x2 x3 h' hi' (by omega)))
  exact key _ x2 x3 h hI (Nat.lt_succ_self _)
theorem GLp_X12_sayAll_12 {P2 : Int → Hp → Prop} (x0 : Nat) (x1 : Int) (x2 : Int) (x3 : Int) (h : Hp) (Q : Hp → Prop) (hP2 : ∀ (m1 : Int) (h : Hp), P2 m1 h → Go i_X12_sayAll 2 [(0, .inr (.inr x0)), (1, .inl m1)] [] h (qV Q)) (hV : Lp_X12_sayAll_12 P2 x0 x1 x2 x3 h Q) : Go i_X12_sayAll 12 [(0, .inr (.inr x0)), (1, .inl x1), (2, .inl x2), (3, .inl x3)] [] h (qV Q) := by
  refine hV (fun x2 x3 h => Go i_X12_sayAll 12 [(0, .inr (.inr x0)), (1, .inl x1), (2, .inl x2), (3, .inl x3)] [] h (qV Q)) (fun x2 x3 h hV => ?_)
  unfold BLp_X12_sayAll_12 at hV
  have hP12 : ∀ (x2 : Int) (x3 : Int) (h : Hp), Go i_X12_sayAll 12 [(0, .inr (.inr x0)), (1, .inl x1), (2, .inl x2), (3, .inl x3)] [] h (qV Q) → Go i_X12_sayAll 12 [(0, .inr (.inr x0)), (1, .inl x1), (2, .inl x2), (3, .inl x3)] [] h (qV Q) := fun _ _ h z => z
  refine s_iload_n d_X12_sayAll_12 rfl (ma 3 rfl) ?_
  refine s_aload_n d_X12_sayAll_13 rfl (ma 0 rfl) ?_
  obtain ⟨o, hV⟩ := hV
  refine f_RX12_186g rfl d_X12_sayAll_14 o ?_
  refine s_icmp_ge (tgt := 44) d_X12_sayAll_17 (by decide) (fun c => ?_) (fun c => ?_)
  · have hV := hV.1 c
    refine s_aload_n d_X12_sayAll_44 rfl (ma 0 rfl) ?_
    refine s_iconst d_X12_sayAll_45 (okn rfl) ?_
    refine s_iload_n d_X12_sayAll_46 rfl (ma 2 rfl) ?_
    refine s_iload_n d_X12_sayAll_47 rfl (ma 1 rfl) ?_
    obtain ⟨o, hV⟩ := hV
    refine v_RX12_189 rfl (Nat.le_of_ble_eq_true rfl) d_X12_sayAll_48 o (Nat.le_of_ble_eq_true rfl) hV (fun h1 hV => ?_)
    obtain ⟨o, hV⟩ := hV
    refine s_iinc (lv' := [(1, .inl (x1 + 1)), (0, .inr (.inr x0)), (2, .inl x2), (3, .inl x3)]) d_X12_sayAll_51 (ma 1 rfl) o (Nat.le_of_ble_eq_true rfl) rfl ?_
    refine s_goto (tgt := 2) d_X12_sayAll_54 (by decide) ?_
    refine s_pick (lv' := [(0, .inr (.inr x0)), (1, .inl (x1 + 1))]) [1, 0] rfl ?_
    exact hP2 _ _ hV
  · have hV := hV.2 c
    refine s_iload_n d_X12_sayAll_20 rfl (ma 2 rfl) ?_
    refine s_aload_n d_X12_sayAll_21 rfl (ma 0 rfl) ?_
    obtain ⟨o, hV⟩ := hV
    refine f_RX12_63g rfl d_X12_sayAll_22 o ?_
    refine s_iload_n d_X12_sayAll_25 rfl (ma 3 rfl) ?_
    obtain ⟨o, hV⟩ := hV
    refine s_iald d_X12_sayAll_26 o.1 o.2.1 o.2.2 ?_
    refine s_iload_n d_X12_sayAll_27 rfl (ma 1 rfl) ?_
    refine s_icmp_ne (tgt := 35) d_X12_sayAll_28 (by decide) (fun c => ?_) (fun c => ?_)
    · have hV := hV.1 c
      refine s_iconst d_X12_sayAll_35 (okn rfl) ?_
      obtain ⟨o, hV⟩ := hV
      refine s_iadd d_X12_sayAll_36 o ?_
      refine s_nmI (fun x2_2 ex2_2 => ?_)
      have hV := hV x2_2 ex2_2
      refine s_istore_n (lv' := [(2, .inl x2_2), (0, .inr (.inr x0)), (1, .inl x1), (3, .inl x3)]) d_X12_sayAll_37 rfl (Nat.le_of_ble_eq_true rfl) rfl ?_
      obtain ⟨o, hV⟩ := hV
      refine s_iinc (lv' := [(3, .inl (x3 + 1)), (2, .inl x2_2), (0, .inr (.inr x0)), (1, .inl x1)]) d_X12_sayAll_38 (ma 3 rfl) o (Nat.le_of_ble_eq_true rfl) rfl ?_
      refine s_goto (tgt := 12) d_X12_sayAll_41 (by decide) ?_
      refine s_pick (lv' := [(0, .inr (.inr x0)), (1, .inl x1), (2, .inl x2_2), (3, .inl (x3 + 1))]) [2, 3, 1, 0] rfl ?_
      exact hP12 _ _ _ hV
    · have hV := hV.2 c
      refine s_iconst d_X12_sayAll_31 (okn rfl) ?_
      refine s_goto (tgt := 36) d_X12_sayAll_32 (by decide) ?_
      obtain ⟨o, hV⟩ := hV
      refine s_iadd d_X12_sayAll_36 o ?_
      refine s_nmI (fun x2_3 ex2_3 => ?_)
      have hV := hV x2_3 ex2_3
      refine s_istore_n (lv' := [(2, .inl x2_3), (0, .inr (.inr x0)), (1, .inl x1), (3, .inl x3)]) d_X12_sayAll_37 rfl (Nat.le_of_ble_eq_true rfl) rfl ?_
      obtain ⟨o, hV⟩ := hV
      refine s_iinc (lv' := [(3, .inl (x3 + 1)), (2, .inl x2_3), (0, .inr (.inr x0)), (1, .inl x1)]) d_X12_sayAll_38 (ma 3 rfl) o (Nat.le_of_ble_eq_true rfl) rfl ?_
      refine s_goto (tgt := 12) d_X12_sayAll_41 (by decide) ?_
      refine s_pick (lv' := [(0, .inr (.inr x0)), (1, .inl x1), (2, .inl x2_3), (3, .inl (x3 + 1))]) [2, 3, 1, 0] rfl ?_
      exact hP12 _ _ _ hV
def BLp_X12_sayAll_2 (x0 : Nat) (P2 : Int → Hp → Prop) (x1 : Int) (h : Hp) (Q : Hp → Prop) : Prop :=
  (10 ≤ x1 → (Q h)) ∧ (¬ 10 ≤ x1 → (Lp_X12_sayAll_12 P2 x0 x1 0 0 h Q))
def Lp_X12_sayAll_2 (x0 : Nat) (x1 : Int) (h : Hp) (Q : Hp → Prop) : Prop := ∀ P2 : Int → Hp → Prop, (∀ (x1 : Int) (h : Hp), BLp_X12_sayAll_2 x0 P2 x1 h Q → P2 x1 h) → P2 x1 h
theorem Lp_X12_sayAll_2_ind {x0 : Nat} {Q : Hp → Prop} (I : Int → Hp → Prop) (μ : Int → Hp → Nat) (hs : ∀ (P2 : Int → Hp → Prop) (x1 : Int) (h : Hp), I x1 h → (∀ (x1' : Int) (h' : Hp), I x1' h' → μ x1' h' < μ x1 h → P2 x1' h') → BLp_X12_sayAll_2 x0 P2 x1 h Q) : ∀ (x1 : Int) (h : Hp), I x1 h → Lp_X12_sayAll_2 x0 x1 h Q := by
  intro x1 h hI P2 hP
  have key : ∀ (n : Nat) (x1 : Int) (h : Hp), I x1 h → μ x1 h < n → P2 x1 h := by
    intro n
    induction n with
    | zero => intro x1 h _ hl; exact absurd hl (Nat.not_lt_zero _)
    | succ n ih => intro x1 h hi hl; exact hP x1 h (hs P2 x1 h hi (fun x1 h' hi' hl' => ih x1 h' hi' (by omega)))
  exact key _ x1 h hI (Nat.lt_succ_self _)
theorem GLp_X12_sayAll_2 (x0 : Nat) (x1 : Int) (h : Hp) (Q : Hp → Prop) (hV : Lp_X12_sayAll_2 x0 x1 h Q) : Go i_X12_sayAll 2 [(0, .inr (.inr x0)), (1, .inl x1)] [] h (qV Q) := by
  refine hV (fun x1 h => Go i_X12_sayAll 2 [(0, .inr (.inr x0)), (1, .inl x1)] [] h (qV Q)) (fun x1 h hV => ?_)
  unfold BLp_X12_sayAll_2 at hV
  have hP2 : ∀ (x1 : Int) (h : Hp), Go i_X12_sayAll 2 [(0, .inr (.inr x0)), (1, .inl x1)] [] h (qV Q) → Go i_X12_sayAll 2 [(0, .inr (.inr x0)), (1, .inl x1)] [] h (qV Q) := fun _ h z => z
  refine s_iload_n d_X12_sayAll_2 rfl (ma 1 rfl) ?_
  refine s_bipush d_X12_sayAll_3 (by decide) (okn rfl) ?_
  refine s_icmp_ge (tgt := 57) d_X12_sayAll_5 (by decide) (fun c => ?_) (fun c => ?_)
  · have hV := hV.1 c
    exact s_vret d_X12_sayAll_57 rfl ⟨rfl, hV⟩
  · have hV := hV.2 c
    refine s_iconst d_X12_sayAll_8 (okn rfl) ?_
    refine s_istore_n (lv' := [(2, .inl 0), (0, .inr (.inr x0)), (1, .inl x1)]) d_X12_sayAll_9 rfl (Nat.le_of_ble_eq_true rfl) rfl ?_
    refine s_iconst d_X12_sayAll_10 (okn rfl) ?_
    refine s_istore_n (lv' := [(3, .inl 0), (2, .inl 0), (0, .inr (.inr x0)), (1, .inl x1)]) d_X12_sayAll_11 rfl (Nat.le_of_ble_eq_true rfl) rfl ?_
    refine s_pick (lv' := [(0, .inr (.inr x0)), (1, .inl x1), (2, .inl 0), (3, .inl 0)]) [2, 3, 1, 0] rfl ?_
    exact GLp_X12_sayAll_12 _ _ _ _ _ _ (by intros; apply hP2; assumption) hV
def V_X12_sayAll (x0 : Nat) (h : Hp) (Q : Hp → Prop) : Prop :=
  Lp_X12_sayAll_2 x0 0 h Q
theorem G_X12_sayAll {x0 : Nat} (h : Hp) (Q : Hp → Prop) (hV : V_X12_sayAll x0 h Q) : C_X12_sayAll x0 h Q := by
  unfold V_X12_sayAll at hV
  show Go i_X12_sayAll 0 [(0, .inr (.inr x0))] [] h (qV Q)
  refine s_iconst d_X12_sayAll_0 (okn rfl) ?_
  refine s_istore_n (lv' := [(1, .inl 0), (0, .inr (.inr x0))]) d_X12_sayAll_1 rfl (Nat.le_of_ble_eq_true rfl) rfl ?_
  refine s_pick (lv' := [(0, .inr (.inr x0)), (1, .inl 0)]) [1, 0] rfl ?_
  exact GLp_X12_sayAll_2 _ _ _ _ hV

theorem d_X12_reads_0 : decode i_X12_reads.2.1 0 = .ok (.aload_n 0, 1) := by decide +kernel
theorem d_X12_reads_1 : decode i_X12_reads.2.1 1 = .ok (.iconst 0, 1) := by decide +kernel
theorem d_X12_reads_2 : decode i_X12_reads.2.1 2 = .ok (.putfield 113, 3) := by decide +kernel
theorem d_X12_reads_5 : decode i_X12_reads.2.1 5 = .ok (.iload_n 1, 1) := by decide +kernel
theorem d_X12_reads_6 : decode i_X12_reads.2.1 6 = .ok (.iconst 2, 1) := by decide +kernel
theorem d_X12_reads_7 : decode i_X12_reads.2.1 7 = .ok (.if_icmp .ne 10, 3) := by decide +kernel
theorem d_X12_reads_10 : decode i_X12_reads.2.1 10 = .ok (.aload_n 0, 1) := by decide +kernel
theorem d_X12_reads_11 : decode i_X12_reads.2.1 11 = .ok (.invokevirtual 193, 3) := by decide +kernel
theorem d_X12_reads_14 : decode i_X12_reads.2.1 14 = .ok (.goto 20, 3) := by decide +kernel
theorem d_X12_reads_17 : decode i_X12_reads.2.1 17 = .ok (.iload_n 1, 1) := by decide +kernel
theorem d_X12_reads_18 : decode i_X12_reads.2.1 18 = .ok (.iconst 3, 1) := by decide +kernel
theorem d_X12_reads_19 : decode i_X12_reads.2.1 19 = .ok (.if_icmp .ne 10, 3) := by decide +kernel
theorem d_X12_reads_22 : decode i_X12_reads.2.1 22 = .ok (.aload_n 0, 1) := by decide +kernel
theorem d_X12_reads_23 : decode i_X12_reads.2.1 23 = .ok (.invokevirtual 196, 3) := by decide +kernel
theorem d_X12_reads_26 : decode i_X12_reads.2.1 26 = .ok (.goto 8, 3) := by decide +kernel
theorem d_X12_reads_29 : decode i_X12_reads.2.1 29 = .ok (.aload_n 0, 1) := by decide +kernel
theorem d_X12_reads_30 : decode i_X12_reads.2.1 30 = .ok (.iload_n 1, 1) := by decide +kernel
theorem d_X12_reads_31 : decode i_X12_reads.2.1 31 = .ok (.invokevirtual 199, 3) := by decide +kernel
theorem d_X12_reads_34 : decode i_X12_reads.2.1 34 = .ok (.aload_n 0, 1) := by decide +kernel
theorem d_X12_reads_35 : decode i_X12_reads.2.1 35 = .ok (.getfield 66, 3) := by decide +kernel
theorem d_X12_reads_38 : decode i_X12_reads.2.1 38 = .ok (.iconst 0, 1) := by decide +kernel
theorem d_X12_reads_39 : decode i_X12_reads.2.1 39 = .ok (.aload_n 0, 1) := by decide +kernel
theorem d_X12_reads_40 : decode i_X12_reads.2.1 40 = .ok (.getfield 63, 3) := by decide +kernel
theorem d_X12_reads_43 : decode i_X12_reads.2.1 43 = .ok (.iconst 0, 1) := by decide +kernel
theorem d_X12_reads_44 : decode i_X12_reads.2.1 44 = .ok (.aload_n 0, 1) := by decide +kernel
theorem d_X12_reads_45 : decode i_X12_reads.2.1 45 = .ok (.getfield 113, 3) := by decide +kernel
theorem d_X12_reads_48 : decode i_X12_reads.2.1 48 = .ok (.invokestatic 136, 3) := by decide +kernel
theorem d_X12_reads_51 : decode i_X12_reads.2.1 51 = .ok (.aload_n 0, 1) := by decide +kernel
theorem d_X12_reads_52 : decode i_X12_reads.2.1 52 = .ok (.aload_n 0, 1) := by decide +kernel
theorem d_X12_reads_53 : decode i_X12_reads.2.1 53 = .ok (.getfield 113, 3) := by decide +kernel
theorem d_X12_reads_56 : decode i_X12_reads.2.1 56 = .ok (.putfield 186, 3) := by decide +kernel
theorem d_X12_reads_59 : decode i_X12_reads.2.1 59 = .ok (.return_, 1) := by decide +kernel
def J_X12_reads_34 (x0 : Nat) (h : Hp) (Q : Hp → Prop) : Prop :=
  hK h x0 = 11 ∧ (hK h x0 = 11 ∧ (hK h x0 = 11 ∧ (C_X12_bring (hR h x0 30) 0 (hR h x0 28) 0 (hI h x0 31) h (fun h1 => (hK h1 x0 = 11 ∧ (hK h1 x0 = 11 ∧ ∀ h2 : Hp, h2 = wI h1 x0 29 (hI h1 x0 31) → (Q h2)))))))
theorem GJ_X12_reads_34 (x0 : Nat) (h : Hp) (Q : Hp → Prop) (hV : J_X12_reads_34 x0 h Q) : Go i_X12_reads 34 [(0, .inr (.inr x0))] [] h (qV Q) := by
  unfold J_X12_reads_34 at hV
  refine s_aload_n d_X12_reads_34 rfl (ma 0 rfl) ?_
  obtain ⟨o, hV⟩ := hV
  refine f_RX12_66g rfl d_X12_reads_35 o ?_
  refine s_iconst d_X12_reads_38 (okn rfl) ?_
  refine s_aload_n d_X12_reads_39 rfl (ma 0 rfl) ?_
  obtain ⟨o, hV⟩ := hV
  refine f_RX12_63g rfl d_X12_reads_40 o ?_
  refine s_iconst d_X12_reads_43 (okn rfl) ?_
  refine s_aload_n d_X12_reads_44 rfl (ma 0 rfl) ?_
  obtain ⟨o, hV⟩ := hV
  refine f_RX12_113g rfl d_X12_reads_45 o ?_
  refine v_RX12_136 rfl (Nat.le_of_ble_eq_true rfl) d_X12_reads_48 (Nat.le_of_ble_eq_true rfl) hV (fun h1 hV => ?_)
  refine s_aload_n d_X12_reads_51 rfl (ma 0 rfl) ?_
  refine s_aload_n d_X12_reads_52 rfl (ma 0 rfl) ?_
  obtain ⟨o, hV⟩ := hV
  refine f_RX12_113g rfl d_X12_reads_53 o ?_
  obtain ⟨o, hV⟩ := hV
  refine f_RX12_186p rfl d_X12_reads_56 o (fun h2 eh2 => ?_)
  have hV := hV h2 eh2
  exact s_vret d_X12_reads_59 rfl ⟨rfl, hV⟩
def V_X12_reads (x0 : Nat) (x1 : Int) (h : Hp) (Q : Hp → Prop) : Prop :=
  hK h x0 = 11 ∧ ∀ h1 : Hp, h1 = wI h x0 31 0 → ((x1 ≠ 2 → ((x1 ≠ 3 → (hK h1 x0 = 11 ∧ C_X12_sayRuns x0 x1 h1 (fun h2 => (J_X12_reads_34 x0 h2 Q)))) ∧ (x1 = 3 → (hK h1 x0 = 11 ∧ C_X12_sayAll x0  h1 (fun h3 => (J_X12_reads_34 x0 h3 Q)))))) ∧ (x1 = 2 → (hK h1 x0 = 11 ∧ C_X12_sayBackward x0  h1 (fun h4 => (J_X12_reads_34 x0 h4 Q)))))
theorem G_X12_reads {x0 : Nat} {x1 : Int} (h : Hp) (Q : Hp → Prop) (hV : V_X12_reads x0 x1 h Q) : C_X12_reads x0 x1 h Q := by
  unfold V_X12_reads at hV
  show Go i_X12_reads 0 [(0, .inr (.inr x0)), (1, .inl x1)] [] h (qV Q)
  refine s_aload_n d_X12_reads_0 rfl (ma 0 rfl) ?_
  refine s_iconst d_X12_reads_1 (okn rfl) ?_
  obtain ⟨o, hV⟩ := hV
  refine f_RX12_113p rfl d_X12_reads_2 o (fun h1 eh1 => ?_)
  have hV := hV h1 eh1
  refine s_iload_n d_X12_reads_5 rfl (ma 1 rfl) ?_
  refine s_iconst d_X12_reads_6 (okn rfl) ?_
  refine s_icmp_ne (tgt := 17) d_X12_reads_7 (by decide) (fun c => ?_) (fun c => ?_)
  · have hV := hV.1 c
    refine s_iload_n d_X12_reads_17 rfl (ma 1 rfl) ?_
    refine s_iconst d_X12_reads_18 (okn rfl) ?_
    refine s_icmp_ne (tgt := 29) d_X12_reads_19 (by decide) (fun c => ?_) (fun c => ?_)
    · have hV := hV.1 c
      refine s_aload_n d_X12_reads_29 rfl (ma 0 rfl) ?_
      refine s_iload_n d_X12_reads_30 rfl (ma 1 rfl) ?_
      obtain ⟨o, hV⟩ := hV
      refine v_RX12_199 rfl (Nat.le_of_ble_eq_true rfl) d_X12_reads_31 o (Nat.le_of_ble_eq_true rfl) hV (fun h2 hV => ?_)
      refine s_pick (lv' := [(0, .inr (.inr x0))]) [0] rfl ?_
      exact GJ_X12_reads_34 _ _ _ hV
    · have hV := hV.2 c
      refine s_aload_n d_X12_reads_22 rfl (ma 0 rfl) ?_
      obtain ⟨o, hV⟩ := hV
      refine v_RX12_196 rfl (Nat.le_of_ble_eq_true rfl) d_X12_reads_23 o (Nat.le_of_ble_eq_true rfl) hV (fun h3 hV => ?_)
      refine s_goto (tgt := 34) d_X12_reads_26 (by decide) ?_
      refine s_pick (lv' := [(0, .inr (.inr x0))]) [0] rfl ?_
      exact GJ_X12_reads_34 _ _ _ hV
  · have hV := hV.2 c
    refine s_aload_n d_X12_reads_10 rfl (ma 0 rfl) ?_
    obtain ⟨o, hV⟩ := hV
    refine v_RX12_193 rfl (Nat.le_of_ble_eq_true rfl) d_X12_reads_11 o (Nat.le_of_ble_eq_true rfl) hV (fun h4 hV => ?_)
    refine s_goto (tgt := 34) d_X12_reads_14 (by decide) ?_
    refine s_pick (lv' := [(0, .inr (.inr x0))]) [0] rfl ?_
    exact GJ_X12_reads_34 _ _ _ hV

theorem d_X12_begin_0 : decode i_X12_begin.2.1 0 = .ok (.aload_n 0, 1) := by decide +kernel
theorem d_X12_begin_1 : decode i_X12_begin.2.1 1 = .ok (.aload_n 0, 1) := by decide +kernel
theorem d_X12_begin_2 : decode i_X12_begin.2.1 2 = .ok (.getfield 32, 3) := by decide +kernel
theorem d_X12_begin_5 : decode i_X12_begin.2.1 5 = .ok (.iconst 0, 1) := by decide +kernel
theorem d_X12_begin_6 : decode i_X12_begin.2.1 6 = .ok (.iaload, 1) := by decide +kernel
theorem d_X12_begin_7 : decode i_X12_begin.2.1 7 = .ok (.putfield 186, 3) := by decide +kernel
theorem d_X12_begin_10 : decode i_X12_begin.2.1 10 = .ok (.aload_n 0, 1) := by decide +kernel
theorem d_X12_begin_11 : decode i_X12_begin.2.1 11 = .ok (.getfield 32, 3) := by decide +kernel
theorem d_X12_begin_14 : decode i_X12_begin.2.1 14 = .ok (.iconst 3, 1) := by decide +kernel
theorem d_X12_begin_15 : decode i_X12_begin.2.1 15 = .ok (.aload_n 0, 1) := by decide +kernel
theorem d_X12_begin_16 : decode i_X12_begin.2.1 16 = .ok (.getfield 63, 3) := by decide +kernel
theorem d_X12_begin_19 : decode i_X12_begin.2.1 19 = .ok (.iconst 0, 1) := by decide +kernel
theorem d_X12_begin_20 : decode i_X12_begin.2.1 20 = .ok (.aload_n 0, 1) := by decide +kernel
theorem d_X12_begin_21 : decode i_X12_begin.2.1 21 = .ok (.getfield 186, 3) := by decide +kernel
theorem d_X12_begin_24 : decode i_X12_begin.2.1 24 = .ok (.invokestatic 136, 3) := by decide +kernel
theorem d_X12_begin_27 : decode i_X12_begin.2.1 27 = .ok (.return_, 1) := by decide +kernel
def V_X12_begin (x0 : Nat) (h : Hp) (Q : Hp → Prop) : Prop :=
  hK h x0 = 11 ∧ ((hK h (hR h x0 14) = 12 ∧ (0 : Int) ≤ 0 ∧ 0 < hL h (hR h x0 14)) ∧ (hK h x0 = 11 ∧ ∀ h1 : Hp, h1 = wI h x0 29 (hI h (hR h x0 14) 0) → (hK h1 x0 = 11 ∧ (hK h1 x0 = 11 ∧ (hK h1 x0 = 11 ∧ (C_X12_bring (hR h1 x0 14) 3 (hR h1 x0 28) 0 (hI h1 x0 29) h1 (fun h2 => (Q h2))))))))
theorem G_X12_begin {x0 : Nat} (h : Hp) (Q : Hp → Prop) (hV : V_X12_begin x0 h Q) : C_X12_begin x0 h Q := by
  unfold V_X12_begin at hV
  show Go i_X12_begin 0 [(0, .inr (.inr x0))] [] h (qV Q)
  refine s_aload_n d_X12_begin_0 rfl (ma 0 rfl) ?_
  refine s_aload_n d_X12_begin_1 rfl (ma 0 rfl) ?_
  obtain ⟨o, hV⟩ := hV
  refine f_RX12_32g rfl d_X12_begin_2 o ?_
  refine s_iconst d_X12_begin_5 (okn rfl) ?_
  obtain ⟨o, hV⟩ := hV
  refine s_iald d_X12_begin_6 o.1 o.2.1 o.2.2 ?_
  obtain ⟨o, hV⟩ := hV
  refine f_RX12_186p rfl d_X12_begin_7 o (fun h1 eh1 => ?_)
  have hV := hV h1 eh1
  refine s_aload_n d_X12_begin_10 rfl (ma 0 rfl) ?_
  obtain ⟨o, hV⟩ := hV
  refine f_RX12_32g rfl d_X12_begin_11 o ?_
  refine s_iconst d_X12_begin_14 (okn rfl) ?_
  refine s_aload_n d_X12_begin_15 rfl (ma 0 rfl) ?_
  obtain ⟨o, hV⟩ := hV
  refine f_RX12_63g rfl d_X12_begin_16 o ?_
  refine s_iconst d_X12_begin_19 (okn rfl) ?_
  refine s_aload_n d_X12_begin_20 rfl (ma 0 rfl) ?_
  obtain ⟨o, hV⟩ := hV
  refine f_RX12_186g rfl d_X12_begin_21 o ?_
  refine v_RX12_136 rfl (Nat.le_of_ble_eq_true rfl) d_X12_begin_24 (Nat.le_of_ble_eq_true rfl) hV (fun h2 hV => ?_)
  exact s_vret d_X12_begin_27 rfl ⟨rfl, hV⟩

theorem d_X12_note_0 : decode i_X12_note.2.1 0 = .ok (.aload_n 0, 1) := by decide +kernel
theorem d_X12_note_1 : decode i_X12_note.2.1 1 = .ok (.getfield 143, 3) := by decide +kernel
theorem d_X12_note_4 : decode i_X12_note.2.1 4 = .ok (.bipush 30, 2) := by decide +kernel
theorem d_X12_note_6 : decode i_X12_note.2.1 6 = .ok (.if_icmp .ne 30, 3) := by decide +kernel
theorem d_X12_note_9 : decode i_X12_note.2.1 9 = .ok (.aload_n 0, 1) := by decide +kernel
theorem d_X12_note_10 : decode i_X12_note.2.1 10 = .ok (.getfield 35, 3) := by decide +kernel
theorem d_X12_note_13 : decode i_X12_note.2.1 13 = .ok (.bipush 103, 2) := by decide +kernel
theorem d_X12_note_15 : decode i_X12_note.2.1 15 = .ok (.aload_n 0, 1) := by decide +kernel
theorem d_X12_note_16 : decode i_X12_note.2.1 16 = .ok (.getfield 35, 3) := by decide +kernel
theorem d_X12_note_19 : decode i_X12_note.2.1 19 = .ok (.iconst 0, 1) := by decide +kernel
theorem d_X12_note_20 : decode i_X12_note.2.1 20 = .ok (.sipush 2987, 3) := by decide +kernel
theorem d_X12_note_23 : decode i_X12_note.2.1 23 = .ok (.invokestatic 136, 3) := by decide +kernel
theorem d_X12_note_26 : decode i_X12_note.2.1 26 = .ok (.aload_n 0, 1) := by decide +kernel
theorem d_X12_note_27 : decode i_X12_note.2.1 27 = .ok (.dup, 1) := by decide +kernel
theorem d_X12_note_28 : decode i_X12_note.2.1 28 = .ok (.getfield 143, 3) := by decide +kernel
theorem d_X12_note_31 : decode i_X12_note.2.1 31 = .ok (.iconst 1, 1) := by decide +kernel
theorem d_X12_note_32 : decode i_X12_note.2.1 32 = .ok (.isub, 1) := by decide +kernel
theorem d_X12_note_33 : decode i_X12_note.2.1 33 = .ok (.putfield 143, 3) := by decide +kernel
theorem d_X12_note_36 : decode i_X12_note.2.1 36 = .ok (.aload_n 0, 1) := by decide +kernel
theorem d_X12_note_37 : decode i_X12_note.2.1 37 = .ok (.getfield 32, 3) := by decide +kernel
theorem d_X12_note_40 : decode i_X12_note.2.1 40 = .ok (.iconst 0, 1) := by decide +kernel
theorem d_X12_note_41 : decode i_X12_note.2.1 41 = .ok (.aload_n 0, 1) := by decide +kernel
theorem d_X12_note_42 : decode i_X12_note.2.1 42 = .ok (.getfield 35, 3) := by decide +kernel
theorem d_X12_note_45 : decode i_X12_note.2.1 45 = .ok (.bipush 103, 2) := by decide +kernel
theorem d_X12_note_47 : decode i_X12_note.2.1 47 = .ok (.aload_n 0, 1) := by decide +kernel
theorem d_X12_note_48 : decode i_X12_note.2.1 48 = .ok (.getfield 143, 3) := by decide +kernel
theorem d_X12_note_51 : decode i_X12_note.2.1 51 = .ok (.imul, 1) := by decide +kernel
theorem d_X12_note_52 : decode i_X12_note.2.1 52 = .ok (.bipush 103, 2) := by decide +kernel
theorem d_X12_note_54 : decode i_X12_note.2.1 54 = .ok (.invokestatic 136, 3) := by decide +kernel
theorem d_X12_note_57 : decode i_X12_note.2.1 57 = .ok (.aload_n 0, 1) := by decide +kernel
theorem d_X12_note_58 : decode i_X12_note.2.1 58 = .ok (.dup, 1) := by decide +kernel
theorem d_X12_note_59 : decode i_X12_note.2.1 59 = .ok (.getfield 143, 3) := by decide +kernel
theorem d_X12_note_62 : decode i_X12_note.2.1 62 = .ok (.iconst 1, 1) := by decide +kernel
theorem d_X12_note_63 : decode i_X12_note.2.1 63 = .ok (.iadd, 1) := by decide +kernel
theorem d_X12_note_64 : decode i_X12_note.2.1 64 = .ok (.putfield 143, 3) := by decide +kernel
theorem d_X12_note_67 : decode i_X12_note.2.1 67 = .ok (.return_, 1) := by decide +kernel
def J_X12_note_36 (x0 : Nat) (h : Hp) (Q : Hp → Prop) : Prop :=
  hK h x0 = 11 ∧ (hK h x0 = 11 ∧ (hK h x0 = 11 ∧ (((-2147483648 : Int) ≤ 103 * (hI h x0 16) ∧ 103 * (hI h x0 16) ≤ (2147483647 : Int)) ∧ (C_X12_bring (hR h x0 14) 0 (hR h x0 15) (103 * (hI h x0 16)) 103 h (fun h1 => (hK h1 x0 = 11 ∧ (((-2147483648 : Int) ≤ (hI h1 x0 16) + 1 ∧ (hI h1 x0 16) + 1 ≤ (2147483647 : Int)) ∧ (hK h1 x0 = 11 ∧ ∀ h2 : Hp, h2 = wI h1 x0 16 ((hI h1 x0 16) + 1) → (Q h2)))))))))
theorem GJ_X12_note_36 (x0 : Nat) (h : Hp) (Q : Hp → Prop) (hV : J_X12_note_36 x0 h Q) : Go i_X12_note 36 [(0, .inr (.inr x0))] [] h (qV Q) := by
  unfold J_X12_note_36 at hV
  refine s_aload_n d_X12_note_36 rfl (ma 0 rfl) ?_
  obtain ⟨o, hV⟩ := hV
  refine f_RX12_32g rfl d_X12_note_37 o ?_
  refine s_iconst d_X12_note_40 (okn rfl) ?_
  refine s_aload_n d_X12_note_41 rfl (ma 0 rfl) ?_
  obtain ⟨o, hV⟩ := hV
  refine f_RX12_35g rfl d_X12_note_42 o ?_
  refine s_bipush d_X12_note_45 (by decide) (okn rfl) ?_
  refine s_aload_n d_X12_note_47 rfl (ma 0 rfl) ?_
  obtain ⟨o, hV⟩ := hV
  refine f_RX12_143g rfl d_X12_note_48 o ?_
  obtain ⟨o, hV⟩ := hV
  refine s_imul d_X12_note_51 o ?_
  refine s_bipush d_X12_note_52 (by decide) (okn rfl) ?_
  refine v_RX12_136 rfl (Nat.le_of_ble_eq_true rfl) d_X12_note_54 (Nat.le_of_ble_eq_true rfl) hV (fun h1 hV => ?_)
  refine s_aload_n d_X12_note_57 rfl (ma 0 rfl) ?_
  refine s_dup d_X12_note_58 rfl ?_
  obtain ⟨o, hV⟩ := hV
  refine f_RX12_143g rfl d_X12_note_59 o ?_
  refine s_iconst d_X12_note_62 (okn rfl) ?_
  obtain ⟨o, hV⟩ := hV
  refine s_iadd d_X12_note_63 o ?_
  obtain ⟨o, hV⟩ := hV
  refine f_RX12_143p rfl d_X12_note_64 o (fun h2 eh2 => ?_)
  have hV := hV h2 eh2
  exact s_vret d_X12_note_67 rfl ⟨rfl, hV⟩
def V_X12_note (x0 : Nat) (h : Hp) (Q : Hp → Prop) : Prop :=
  hK h x0 = 11 ∧ ((hI h x0 16 ≠ 30 → (J_X12_note_36 x0 h Q)) ∧ (hI h x0 16 = 30 → (hK h x0 = 11 ∧ (hK h x0 = 11 ∧ (C_X12_bring (hR h x0 15) 103 (hR h x0 15) 0 2987 h (fun h1 => (hK h1 x0 = 11 ∧ (((-2147483648 : Int) ≤ (hI h1 x0 16) - 1 ∧ (hI h1 x0 16) - 1 ≤ (2147483647 : Int)) ∧ (hK h1 x0 = 11 ∧ ∀ h2 : Hp, h2 = wI h1 x0 16 ((hI h1 x0 16) - 1) → (J_X12_note_36 x0 h2 Q))))))))))
theorem G_X12_note {x0 : Nat} (h : Hp) (Q : Hp → Prop) (hV : V_X12_note x0 h Q) : C_X12_note x0 h Q := by
  unfold V_X12_note at hV
  show Go i_X12_note 0 [(0, .inr (.inr x0))] [] h (qV Q)
  refine s_aload_n d_X12_note_0 rfl (ma 0 rfl) ?_
  obtain ⟨o, hV⟩ := hV
  refine f_RX12_143g rfl d_X12_note_1 o ?_
  refine s_bipush d_X12_note_4 (by decide) (okn rfl) ?_
  refine s_icmp_ne (tgt := 36) d_X12_note_6 (by decide) (fun c => ?_) (fun c => ?_)
  · have hV := hV.1 c
    exact GJ_X12_note_36 _ _ _ hV
  · have hV := hV.2 c
    refine s_aload_n d_X12_note_9 rfl (ma 0 rfl) ?_
    obtain ⟨o, hV⟩ := hV
    refine f_RX12_35g rfl d_X12_note_10 o ?_
    refine s_bipush d_X12_note_13 (by decide) (okn rfl) ?_
    refine s_aload_n d_X12_note_15 rfl (ma 0 rfl) ?_
    obtain ⟨o, hV⟩ := hV
    refine f_RX12_35g rfl d_X12_note_16 o ?_
    refine s_iconst d_X12_note_19 (okn rfl) ?_
    refine s_sipush d_X12_note_20 (by decide) (okn rfl) ?_
    refine v_RX12_136 rfl (Nat.le_of_ble_eq_true rfl) d_X12_note_23 (Nat.le_of_ble_eq_true rfl) hV (fun h1 hV => ?_)
    refine s_aload_n d_X12_note_26 rfl (ma 0 rfl) ?_
    refine s_dup d_X12_note_27 rfl ?_
    obtain ⟨o, hV⟩ := hV
    refine f_RX12_143g rfl d_X12_note_28 o ?_
    refine s_iconst d_X12_note_31 (okn rfl) ?_
    obtain ⟨o, hV⟩ := hV
    refine s_isub d_X12_note_32 o ?_
    obtain ⟨o, hV⟩ := hV
    refine f_RX12_143p rfl d_X12_note_33 o (fun h2 eh2 => ?_)
    have hV := hV h2 eh2
    exact GJ_X12_note_36 _ _ _ hV

theorem d_X12_become_0 : decode i_X12_become.2.1 0 = .ok (.aload_n 0, 1) := by decide +kernel
theorem d_X12_become_1 : decode i_X12_become.2.1 1 = .ok (.getfield 32, 3) := by decide +kernel
theorem d_X12_become_4 : decode i_X12_become.2.1 4 = .ok (.iconst 0, 1) := by decide +kernel
theorem d_X12_become_5 : decode i_X12_become.2.1 5 = .ok (.aload_n 0, 1) := by decide +kernel
theorem d_X12_become_6 : decode i_X12_become.2.1 6 = .ok (.getfield 186, 3) := by decide +kernel
theorem d_X12_become_9 : decode i_X12_become.2.1 9 = .ok (.iastore, 1) := by decide +kernel
theorem d_X12_become_10 : decode i_X12_become.2.1 10 = .ok (.aload_n 0, 1) := by decide +kernel
theorem d_X12_become_11 : decode i_X12_become.2.1 11 = .ok (.getfield 63, 3) := by decide +kernel
theorem d_X12_become_14 : decode i_X12_become.2.1 14 = .ok (.iconst 0, 1) := by decide +kernel
theorem d_X12_become_15 : decode i_X12_become.2.1 15 = .ok (.aload_n 0, 1) := by decide +kernel
theorem d_X12_become_16 : decode i_X12_become.2.1 16 = .ok (.getfield 32, 3) := by decide +kernel
theorem d_X12_become_19 : decode i_X12_become.2.1 19 = .ok (.iconst 3, 1) := by decide +kernel
theorem d_X12_become_20 : decode i_X12_become.2.1 20 = .ok (.aload_n 0, 1) := by decide +kernel
theorem d_X12_become_21 : decode i_X12_become.2.1 21 = .ok (.getfield 186, 3) := by decide +kernel
theorem d_X12_become_24 : decode i_X12_become.2.1 24 = .ok (.invokestatic 136, 3) := by decide +kernel
theorem d_X12_become_27 : decode i_X12_become.2.1 27 = .ok (.return_, 1) := by decide +kernel
def V_X12_become (x0 : Nat) (h : Hp) (Q : Hp → Prop) : Prop :=
  hK h x0 = 11 ∧ (hK h x0 = 11 ∧ ((hK h (hR h x0 14) = 12 ∧ (0 : Int) ≤ 0 ∧ 0 < hL h (hR h x0 14)) ∧ ∀ h1 : Hp, h1 = wI h (hR h x0 14) 0 (hI h x0 29) → (hK h1 x0 = 11 ∧ (hK h1 x0 = 11 ∧ (hK h1 x0 = 11 ∧ (C_X12_bring (hR h1 x0 28) 0 (hR h1 x0 14) 3 (hI h1 x0 29) h1 (fun h2 => (Q h2))))))))
theorem G_X12_become {x0 : Nat} (h : Hp) (Q : Hp → Prop) (hV : V_X12_become x0 h Q) : C_X12_become x0 h Q := by
  unfold V_X12_become at hV
  show Go i_X12_become 0 [(0, .inr (.inr x0))] [] h (qV Q)
  refine s_aload_n d_X12_become_0 rfl (ma 0 rfl) ?_
  obtain ⟨o, hV⟩ := hV
  refine f_RX12_32g rfl d_X12_become_1 o ?_
  refine s_iconst d_X12_become_4 (okn rfl) ?_
  refine s_aload_n d_X12_become_5 rfl (ma 0 rfl) ?_
  obtain ⟨o, hV⟩ := hV
  refine f_RX12_186g rfl d_X12_become_6 o ?_
  obtain ⟨o, hV⟩ := hV
  refine s_iast d_X12_become_9 o.1 o.2.1 o.2.2 ?_
  refine s_nmH (fun h1 eh1 => ?_)
  have hV := hV h1 eh1
  refine s_aload_n d_X12_become_10 rfl (ma 0 rfl) ?_
  obtain ⟨o, hV⟩ := hV
  refine f_RX12_63g rfl d_X12_become_11 o ?_
  refine s_iconst d_X12_become_14 (okn rfl) ?_
  refine s_aload_n d_X12_become_15 rfl (ma 0 rfl) ?_
  obtain ⟨o, hV⟩ := hV
  refine f_RX12_32g rfl d_X12_become_16 o ?_
  refine s_iconst d_X12_become_19 (okn rfl) ?_
  refine s_aload_n d_X12_become_20 rfl (ma 0 rfl) ?_
  obtain ⟨o, hV⟩ := hV
  refine f_RX12_186g rfl d_X12_become_21 o ?_
  refine v_RX12_136 rfl (Nat.le_of_ble_eq_true rfl) d_X12_become_24 (Nat.le_of_ble_eq_true rfl) hV (fun h2 hV => ?_)
  exact s_vret d_X12_become_27 rfl ⟨rfl, hV⟩

theorem d_X12_logs_0 : decode i_X12_logs.2.1 0 = .ok (.bipush 19, 2) := by decide +kernel
theorem d_X12_logs_2 : decode i_X12_logs.2.1 2 = .ok (.istore_n 2, 1) := by decide +kernel
theorem d_X12_logs_3 : decode i_X12_logs.2.1 3 = .ok (.iload_n 2, 1) := by decide +kernel
theorem d_X12_logs_4 : decode i_X12_logs.2.1 4 = .ok (.ifCond .le 49, 3) := by decide +kernel
theorem d_X12_logs_7 : decode i_X12_logs.2.1 7 = .ok (.aload_n 0, 1) := by decide +kernel
theorem d_X12_logs_8 : decode i_X12_logs.2.1 8 = .ok (.getfield 32, 3) := by decide +kernel
theorem d_X12_logs_11 : decode i_X12_logs.2.1 11 = .ok (.bipush 63, 2) := by decide +kernel
theorem d_X12_logs_13 : decode i_X12_logs.2.1 13 = .ok (.iload_n 2, 1) := by decide +kernel
theorem d_X12_logs_14 : decode i_X12_logs.2.1 14 = .ok (.iadd, 1) := by decide +kernel
theorem d_X12_logs_15 : decode i_X12_logs.2.1 15 = .ok (.aload_n 0, 1) := by decide +kernel
theorem d_X12_logs_16 : decode i_X12_logs.2.1 16 = .ok (.getfield 32, 3) := by decide +kernel
theorem d_X12_logs_19 : decode i_X12_logs.2.1 19 = .ok (.bipush 63, 2) := by decide +kernel
theorem d_X12_logs_21 : decode i_X12_logs.2.1 21 = .ok (.iload_n 2, 1) := by decide +kernel
theorem d_X12_logs_22 : decode i_X12_logs.2.1 22 = .ok (.iadd, 1) := by decide +kernel
theorem d_X12_logs_23 : decode i_X12_logs.2.1 23 = .ok (.iconst 1, 1) := by decide +kernel
theorem d_X12_logs_24 : decode i_X12_logs.2.1 24 = .ok (.isub, 1) := by decide +kernel
theorem d_X12_logs_25 : decode i_X12_logs.2.1 25 = .ok (.iaload, 1) := by decide +kernel
theorem d_X12_logs_26 : decode i_X12_logs.2.1 26 = .ok (.iastore, 1) := by decide +kernel
theorem d_X12_logs_27 : decode i_X12_logs.2.1 27 = .ok (.aload_n 0, 1) := by decide +kernel
theorem d_X12_logs_28 : decode i_X12_logs.2.1 28 = .ok (.getfield 32, 3) := by decide +kernel
theorem d_X12_logs_31 : decode i_X12_logs.2.1 31 = .ok (.bipush 83, 2) := by decide +kernel
theorem d_X12_logs_33 : decode i_X12_logs.2.1 33 = .ok (.iload_n 2, 1) := by decide +kernel
theorem d_X12_logs_34 : decode i_X12_logs.2.1 34 = .ok (.iadd, 1) := by decide +kernel
theorem d_X12_logs_35 : decode i_X12_logs.2.1 35 = .ok (.aload_n 0, 1) := by decide +kernel
theorem d_X12_logs_36 : decode i_X12_logs.2.1 36 = .ok (.getfield 32, 3) := by decide +kernel
theorem d_X12_logs_39 : decode i_X12_logs.2.1 39 = .ok (.bipush 83, 2) := by decide +kernel
theorem d_X12_logs_41 : decode i_X12_logs.2.1 41 = .ok (.iload_n 2, 1) := by decide +kernel
theorem d_X12_logs_42 : decode i_X12_logs.2.1 42 = .ok (.iadd, 1) := by decide +kernel
theorem d_X12_logs_43 : decode i_X12_logs.2.1 43 = .ok (.iconst 1, 1) := by decide +kernel
theorem d_X12_logs_44 : decode i_X12_logs.2.1 44 = .ok (.isub, 1) := by decide +kernel
theorem d_X12_logs_45 : decode i_X12_logs.2.1 45 = .ok (.iaload, 1) := by decide +kernel
theorem d_X12_logs_46 : decode i_X12_logs.2.1 46 = .ok (.iastore, 1) := by decide +kernel
theorem d_X12_logs_47 : decode i_X12_logs.2.1 47 = .ok (.iinc 2 (-1), 3) := by decide +kernel
theorem d_X12_logs_50 : decode i_X12_logs.2.1 50 = .ok (.goto (-47), 3) := by decide +kernel
theorem d_X12_logs_53 : decode i_X12_logs.2.1 53 = .ok (.aload_n 0, 1) := by decide +kernel
theorem d_X12_logs_54 : decode i_X12_logs.2.1 54 = .ok (.getfield 32, 3) := by decide +kernel
theorem d_X12_logs_57 : decode i_X12_logs.2.1 57 = .ok (.bipush 63, 2) := by decide +kernel
theorem d_X12_logs_59 : decode i_X12_logs.2.1 59 = .ok (.iload_n 1, 1) := by decide +kernel
theorem d_X12_logs_60 : decode i_X12_logs.2.1 60 = .ok (.iastore, 1) := by decide +kernel
theorem d_X12_logs_61 : decode i_X12_logs.2.1 61 = .ok (.aload_n 0, 1) := by decide +kernel
theorem d_X12_logs_62 : decode i_X12_logs.2.1 62 = .ok (.getfield 32, 3) := by decide +kernel
theorem d_X12_logs_65 : decode i_X12_logs.2.1 65 = .ok (.bipush 83, 2) := by decide +kernel
theorem d_X12_logs_67 : decode i_X12_logs.2.1 67 = .ok (.aload_n 0, 1) := by decide +kernel
theorem d_X12_logs_68 : decode i_X12_logs.2.1 68 = .ok (.getfield 32, 3) := by decide +kernel
theorem d_X12_logs_71 : decode i_X12_logs.2.1 71 = .ok (.iconst 0, 1) := by decide +kernel
theorem d_X12_logs_72 : decode i_X12_logs.2.1 72 = .ok (.iaload, 1) := by decide +kernel
theorem d_X12_logs_73 : decode i_X12_logs.2.1 73 = .ok (.iastore, 1) := by decide +kernel
theorem d_X12_logs_74 : decode i_X12_logs.2.1 74 = .ok (.aload_n 0, 1) := by decide +kernel
theorem d_X12_logs_75 : decode i_X12_logs.2.1 75 = .ok (.getfield 32, 3) := by decide +kernel
theorem d_X12_logs_78 : decode i_X12_logs.2.1 78 = .ok (.iconst 2, 1) := by decide +kernel
theorem d_X12_logs_79 : decode i_X12_logs.2.1 79 = .ok (.dup2, 1) := by decide +kernel
theorem d_X12_logs_80 : decode i_X12_logs.2.1 80 = .ok (.iaload, 1) := by decide +kernel
theorem d_X12_logs_81 : decode i_X12_logs.2.1 81 = .ok (.aload_n 0, 1) := by decide +kernel
theorem d_X12_logs_82 : decode i_X12_logs.2.1 82 = .ok (.getfield 32, 3) := by decide +kernel
theorem d_X12_logs_85 : decode i_X12_logs.2.1 85 = .ok (.iconst 2, 1) := by decide +kernel
theorem d_X12_logs_86 : decode i_X12_logs.2.1 86 = .ok (.iaload, 1) := by decide +kernel
theorem d_X12_logs_87 : decode i_X12_logs.2.1 87 = .ok (.bipush 20, 2) := by decide +kernel
theorem d_X12_logs_89 : decode i_X12_logs.2.1 89 = .ok (.if_icmp .ge 7, 3) := by decide +kernel
theorem d_X12_logs_92 : decode i_X12_logs.2.1 92 = .ok (.iconst 1, 1) := by decide +kernel
theorem d_X12_logs_93 : decode i_X12_logs.2.1 93 = .ok (.goto 4, 3) := by decide +kernel
theorem d_X12_logs_96 : decode i_X12_logs.2.1 96 = .ok (.iconst 0, 1) := by decide +kernel
theorem d_X12_logs_97 : decode i_X12_logs.2.1 97 = .ok (.iadd, 1) := by decide +kernel
theorem d_X12_logs_98 : decode i_X12_logs.2.1 98 = .ok (.iastore, 1) := by decide +kernel
theorem d_X12_logs_99 : decode i_X12_logs.2.1 99 = .ok (.aload_n 0, 1) := by decide +kernel
theorem d_X12_logs_100 : decode i_X12_logs.2.1 100 = .ok (.getfield 32, 3) := by decide +kernel
theorem d_X12_logs_103 : decode i_X12_logs.2.1 103 = .ok (.iconst 1, 1) := by decide +kernel
theorem d_X12_logs_104 : decode i_X12_logs.2.1 104 = .ok (.dup2, 1) := by decide +kernel
theorem d_X12_logs_105 : decode i_X12_logs.2.1 105 = .ok (.iaload, 1) := by decide +kernel
theorem d_X12_logs_106 : decode i_X12_logs.2.1 106 = .ok (.iconst 1, 1) := by decide +kernel
theorem d_X12_logs_107 : decode i_X12_logs.2.1 107 = .ok (.iadd, 1) := by decide +kernel
theorem d_X12_logs_108 : decode i_X12_logs.2.1 108 = .ok (.iastore, 1) := by decide +kernel
theorem d_X12_logs_109 : decode i_X12_logs.2.1 109 = .ok (.aload_n 0, 1) := by decide +kernel
theorem d_X12_logs_110 : decode i_X12_logs.2.1 110 = .ok (.invokevirtual 202, 3) := by decide +kernel
theorem d_X12_logs_113 : decode i_X12_logs.2.1 113 = .ok (.return_, 1) := by decide +kernel
def J_X12_logs_97 (x0 : Nat) (y0 : Int) (y1 : Int) (y2 : Int) (y3 : Nat) (h : Hp) (Q : Hp → Prop) : Prop :=
  ((-2147483648 : Int) ≤ y1 + y0 ∧ y1 + y0 ≤ (2147483647 : Int)) ∧ ((hK h y3 = 12 ∧ (0 : Int) ≤ y2 ∧ y2 < hL h y3) ∧ ∀ h1 : Hp, h1 = wI h y3 y2 (y1 + y0) → (hK h1 x0 = 11 ∧ ((hK h1 (hR h1 x0 14) = 12 ∧ (0 : Int) ≤ 1 ∧ 1 < hL h1 (hR h1 x0 14)) ∧ (((-2147483648 : Int) ≤ (hI h1 (hR h1 x0 14) 1) + 1 ∧ (hI h1 (hR h1 x0 14) 1) + 1 ≤ (2147483647 : Int)) ∧ ((hK h1 (hR h1 x0 14) = 12 ∧ (0 : Int) ≤ 1 ∧ 1 < hL h1 (hR h1 x0 14)) ∧ ∀ h2 : Hp, h2 = wI h1 (hR h1 x0 14) 1 ((hI h1 (hR h1 x0 14) 1) + 1) → (hK h2 x0 = 11 ∧ C_X12_become x0  h2 (fun h3 => (Q h3))))))))
theorem GJ_X12_logs_97 (x0 : Nat) (y0 : Int) (y1 : Int) (y2 : Int) (y3 : Nat) (h : Hp) (Q : Hp → Prop) (hV : J_X12_logs_97 x0 y0 y1 y2 y3 h Q) : Go i_X12_logs 97 [(0, .inr (.inr x0))] [.inl y0, .inl y1, .inl y2, .inr (.inr y3)] h (qV Q) := by
  unfold J_X12_logs_97 at hV
  obtain ⟨o, hV⟩ := hV
  refine s_iadd d_X12_logs_97 o ?_
  obtain ⟨o, hV⟩ := hV
  refine s_iast d_X12_logs_98 o.1 o.2.1 o.2.2 ?_
  refine s_nmH (fun h1 eh1 => ?_)
  have hV := hV h1 eh1
  refine s_aload_n d_X12_logs_99 rfl (ma 0 rfl) ?_
  obtain ⟨o, hV⟩ := hV
  refine f_RX12_32g rfl d_X12_logs_100 o ?_
  refine s_iconst d_X12_logs_103 (okn rfl) ?_
  refine s_dup2 d_X12_logs_104 rfl rfl ?_
  obtain ⟨o, hV⟩ := hV
  refine s_iald d_X12_logs_105 o.1 o.2.1 o.2.2 ?_
  refine s_iconst d_X12_logs_106 (okn rfl) ?_
  obtain ⟨o, hV⟩ := hV
  refine s_iadd d_X12_logs_107 o ?_
  obtain ⟨o, hV⟩ := hV
  refine s_iast d_X12_logs_108 o.1 o.2.1 o.2.2 ?_
  refine s_nmH (fun h2 eh2 => ?_)
  have hV := hV h2 eh2
  refine s_aload_n d_X12_logs_109 rfl (ma 0 rfl) ?_
  obtain ⟨o, hV⟩ := hV
  refine v_RX12_202 rfl (Nat.le_of_ble_eq_true rfl) d_X12_logs_110 o (Nat.le_of_ble_eq_true rfl) hV (fun h3 hV => ?_)
  exact s_vret d_X12_logs_113 rfl ⟨rfl, hV⟩
def BLp_X12_logs_3 (x0 : Nat) (x1 : Int) (P3 : Int → Hp → Prop) (x2 : Int) (h : Hp) (Q : Hp → Prop) : Prop :=
  (x2 ≤ 0 → (hK h x0 = 11 ∧ ((hK h (hR h x0 14) = 12 ∧ (0 : Int) ≤ 63 ∧ 63 < hL h (hR h x0 14)) ∧ ∀ h1 : Hp, h1 = wI h (hR h x0 14) 63 x1 → (hK h1 x0 = 11 ∧ (hK h1 x0 = 11 ∧ ((hK h1 (hR h1 x0 14) = 12 ∧ (0 : Int) ≤ 0 ∧ 0 < hL h1 (hR h1 x0 14)) ∧ ((hK h1 (hR h1 x0 14) = 12 ∧ (0 : Int) ≤ 83 ∧ 83 < hL h1 (hR h1 x0 14)) ∧ ∀ h2 : Hp, h2 = wI h1 (hR h1 x0 14) 83 (hI h1 (hR h1 x0 14) 0) → (hK h2 x0 = 11 ∧ ((hK h2 (hR h2 x0 14) = 12 ∧ (0 : Int) ≤ 2 ∧ 2 < hL h2 (hR h2 x0 14)) ∧ (hK h2 x0 = 11 ∧ ((hK h2 (hR h2 x0 14) = 12 ∧ (0 : Int) ≤ 2 ∧ 2 < hL h2 (hR h2 x0 14)) ∧ ((20 ≤ hI h2 (hR h2 x0 14) 2 → (J_X12_logs_97 x0 0 (hI h2 (hR h2 x0 14) 2) 2 (hR h2 x0 14) h2 Q)) ∧ (¬ 20 ≤ hI h2 (hR h2 x0 14) 2 → (J_X12_logs_97 x0 1 (hI h2 (hR h2 x0 14) 2) 2 (hR h2 x0 14) h2 Q)))))))))))))) ∧ (¬ x2 ≤ 0 → (hK h x0 = 11 ∧ (((-2147483648 : Int) ≤ 63 + x2 ∧ 63 + x2 ≤ (2147483647 : Int)) ∧ (hK h x0 = 11 ∧ (((-2147483648 : Int) ≤ 63 + x2 ∧ 63 + x2 ≤ (2147483647 : Int)) ∧ (((-2147483648 : Int) ≤ (63 + x2) - 1 ∧ (63 + x2) - 1 ≤ (2147483647 : Int)) ∧ ((hK h (hR h x0 14) = 12 ∧ (0 : Int) ≤ (63 + x2) - 1 ∧ (63 + x2) - 1 < hL h (hR h x0 14)) ∧ ((hK h (hR h x0 14) = 12 ∧ (0 : Int) ≤ 63 + x2 ∧ 63 + x2 < hL h (hR h x0 14)) ∧ ∀ h3 : Hp, h3 = wI h (hR h x0 14) (63 + x2) (hI h (hR h x0 14) ((63 + x2) - 1)) → (hK h3 x0 = 11 ∧ (((-2147483648 : Int) ≤ 83 + x2 ∧ 83 + x2 ≤ (2147483647 : Int)) ∧ (hK h3 x0 = 11 ∧ (((-2147483648 : Int) ≤ 83 + x2 ∧ 83 + x2 ≤ (2147483647 : Int)) ∧ (((-2147483648 : Int) ≤ (83 + x2) - 1 ∧ (83 + x2) - 1 ≤ (2147483647 : Int)) ∧ ((hK h3 (hR h3 x0 14) = 12 ∧ (0 : Int) ≤ (83 + x2) - 1 ∧ (83 + x2) - 1 < hL h3 (hR h3 x0 14)) ∧ ((hK h3 (hR h3 x0 14) = 12 ∧ (0 : Int) ≤ 83 + x2 ∧ 83 + x2 < hL h3 (hR h3 x0 14)) ∧ ∀ h4 : Hp, h4 = wI h3 (hR h3 x0 14) (83 + x2) (hI h3 (hR h3 x0 14) ((83 + x2) - 1)) → (((-2147483648 : Int) ≤ x2 + (-1) ∧ x2 + (-1) ≤ (2147483647 : Int)) ∧ (P3 (x2 + (-1)) h4)))))))))))))))))
def Lp_X12_logs_3 (x0 : Nat) (x1 : Int) (x2 : Int) (h : Hp) (Q : Hp → Prop) : Prop := ∀ P3 : Int → Hp → Prop, (∀ (x2 : Int) (h : Hp), BLp_X12_logs_3 x0 x1 P3 x2 h Q → P3 x2 h) → P3 x2 h
theorem Lp_X12_logs_3_ind {x0 : Nat} {x1 : Int} {Q : Hp → Prop} (I : Int → Hp → Prop) (μ : Int → Hp → Nat) (hs : ∀ (P3 : Int → Hp → Prop) (x2 : Int) (h : Hp), I x2 h → (∀ (x2' : Int) (h' : Hp), I x2' h' → μ x2' h' < μ x2 h → P3 x2' h') → BLp_X12_logs_3 x0 x1 P3 x2 h Q) : ∀ (x2 : Int) (h : Hp), I x2 h → Lp_X12_logs_3 x0 x1 x2 h Q := by
  intro x2 h hI P3 hP
  have key : ∀ (n : Nat) (x2 : Int) (h : Hp), I x2 h → μ x2 h < n → P3 x2 h := by
    intro n
    induction n with
    | zero => intro x2 h _ hl; exact absurd hl (Nat.not_lt_zero _)
    | succ n ih => intro x2 h hi hl; exact hP x2 h (hs P3 x2 h hi (fun x2 h' hi' hl' => ih x2 h' hi' (by omega)))
  exact key _ x2 h hI (Nat.lt_succ_self _)
theorem GLp_X12_logs_3 (x0 : Nat) (x1 : Int) (x2 : Int) (h : Hp) (Q : Hp → Prop) (hV : Lp_X12_logs_3 x0 x1 x2 h Q) : Go i_X12_logs 3 [(0, .inr (.inr x0)), (1, .inl x1), (2, .inl x2)] [] h (qV Q) := by
  refine hV (fun x2 h => Go i_X12_logs 3 [(0, .inr (.inr x0)), (1, .inl x1), (2, .inl x2)] [] h (qV Q)) (fun x2 h hV => ?_)
  unfold BLp_X12_logs_3 at hV
  have hP3 : ∀ (x2 : Int) (h : Hp), Go i_X12_logs 3 [(0, .inr (.inr x0)), (1, .inl x1), (2, .inl x2)] [] h (qV Q) → Go i_X12_logs 3 [(0, .inr (.inr x0)), (1, .inl x1), (2, .inl x2)] [] h (qV Q) := fun _ h z => z
  refine s_iload_n d_X12_logs_3 rfl (ma 2 rfl) ?_
  refine s_if_le (tgt := 53) d_X12_logs_4 (by decide) (fun c => ?_) (fun c => ?_)
  · have hV := hV.1 c
    refine s_aload_n d_X12_logs_53 rfl (ma 0 rfl) ?_
    obtain ⟨o, hV⟩ := hV
    refine f_RX12_32g rfl d_X12_logs_54 o ?_
    refine s_bipush d_X12_logs_57 (by decide) (okn rfl) ?_
    refine s_iload_n d_X12_logs_59 rfl (ma 1 rfl) ?_
    obtain ⟨o, hV⟩ := hV
    refine s_iast d_X12_logs_60 o.1 o.2.1 o.2.2 ?_
    refine s_nmH (fun h1 eh1 => ?_)
    have hV := hV h1 eh1
    refine s_aload_n d_X12_logs_61 rfl (ma 0 rfl) ?_
    obtain ⟨o, hV⟩ := hV
    refine f_RX12_32g rfl d_X12_logs_62 o ?_
    refine s_bipush d_X12_logs_65 (by decide) (okn rfl) ?_
    refine s_aload_n d_X12_logs_67 rfl (ma 0 rfl) ?_
    obtain ⟨o, hV⟩ := hV
    refine f_RX12_32g rfl d_X12_logs_68 o ?_
    refine s_iconst d_X12_logs_71 (okn rfl) ?_
    obtain ⟨o, hV⟩ := hV
    refine s_iald d_X12_logs_72 o.1 o.2.1 o.2.2 ?_
    obtain ⟨o, hV⟩ := hV
    refine s_iast d_X12_logs_73 o.1 o.2.1 o.2.2 ?_
    refine s_nmH (fun h2 eh2 => ?_)
    have hV := hV h2 eh2
    refine s_aload_n d_X12_logs_74 rfl (ma 0 rfl) ?_
    obtain ⟨o, hV⟩ := hV
    refine f_RX12_32g rfl d_X12_logs_75 o ?_
    refine s_iconst d_X12_logs_78 (okn rfl) ?_
    refine s_dup2 d_X12_logs_79 rfl rfl ?_
    obtain ⟨o, hV⟩ := hV
    refine s_iald d_X12_logs_80 o.1 o.2.1 o.2.2 ?_
    refine s_aload_n d_X12_logs_81 rfl (ma 0 rfl) ?_
    obtain ⟨o, hV⟩ := hV
    refine f_RX12_32g rfl d_X12_logs_82 o ?_
    refine s_iconst d_X12_logs_85 (okn rfl) ?_
    obtain ⟨o, hV⟩ := hV
    refine s_iald d_X12_logs_86 o.1 o.2.1 o.2.2 ?_
    refine s_bipush d_X12_logs_87 (by decide) (okn rfl) ?_
    refine s_icmp_ge (tgt := 96) d_X12_logs_89 (by decide) (fun c => ?_) (fun c => ?_)
    · have hV := hV.1 c
      refine s_iconst d_X12_logs_96 (okn rfl) ?_
      refine s_pick (lv' := [(0, .inr (.inr x0))]) [0] rfl ?_
      exact GJ_X12_logs_97 _ _ _ _ _ _ _ hV
    · have hV := hV.2 c
      refine s_iconst d_X12_logs_92 (okn rfl) ?_
      refine s_goto (tgt := 97) d_X12_logs_93 (by decide) ?_
      refine s_pick (lv' := [(0, .inr (.inr x0))]) [0] rfl ?_
      exact GJ_X12_logs_97 _ _ _ _ _ _ _ hV
  · have hV := hV.2 c
    refine s_aload_n d_X12_logs_7 rfl (ma 0 rfl) ?_
    obtain ⟨o, hV⟩ := hV
    refine f_RX12_32g rfl d_X12_logs_8 o ?_
    refine s_bipush d_X12_logs_11 (by decide) (okn rfl) ?_
    refine s_iload_n d_X12_logs_13 rfl (ma 2 rfl) ?_
    obtain ⟨o, hV⟩ := hV
    refine s_iadd d_X12_logs_14 o ?_
    refine s_aload_n d_X12_logs_15 rfl (ma 0 rfl) ?_
    obtain ⟨o, hV⟩ := hV
    refine f_RX12_32g rfl d_X12_logs_16 o ?_
    refine s_bipush d_X12_logs_19 (by decide) (okn rfl) ?_
    refine s_iload_n d_X12_logs_21 rfl (ma 2 rfl) ?_
    obtain ⟨o, hV⟩ := hV
    refine s_iadd d_X12_logs_22 o ?_
    refine s_iconst d_X12_logs_23 (okn rfl) ?_
    obtain ⟨o, hV⟩ := hV
    refine s_isub d_X12_logs_24 o ?_
    obtain ⟨o, hV⟩ := hV
    refine s_iald d_X12_logs_25 o.1 o.2.1 o.2.2 ?_
    obtain ⟨o, hV⟩ := hV
    refine s_iast d_X12_logs_26 o.1 o.2.1 o.2.2 ?_
    refine s_nmH (fun h3 eh3 => ?_)
    have hV := hV h3 eh3
    refine s_aload_n d_X12_logs_27 rfl (ma 0 rfl) ?_
    obtain ⟨o, hV⟩ := hV
    refine f_RX12_32g rfl d_X12_logs_28 o ?_
    refine s_bipush d_X12_logs_31 (by decide) (okn rfl) ?_
    refine s_iload_n d_X12_logs_33 rfl (ma 2 rfl) ?_
    obtain ⟨o, hV⟩ := hV
    refine s_iadd d_X12_logs_34 o ?_
    refine s_aload_n d_X12_logs_35 rfl (ma 0 rfl) ?_
    obtain ⟨o, hV⟩ := hV
    refine f_RX12_32g rfl d_X12_logs_36 o ?_
    refine s_bipush d_X12_logs_39 (by decide) (okn rfl) ?_
    refine s_iload_n d_X12_logs_41 rfl (ma 2 rfl) ?_
    obtain ⟨o, hV⟩ := hV
    refine s_iadd d_X12_logs_42 o ?_
    refine s_iconst d_X12_logs_43 (okn rfl) ?_
    obtain ⟨o, hV⟩ := hV
    refine s_isub d_X12_logs_44 o ?_
    obtain ⟨o, hV⟩ := hV
    refine s_iald d_X12_logs_45 o.1 o.2.1 o.2.2 ?_
    obtain ⟨o, hV⟩ := hV
    refine s_iast d_X12_logs_46 o.1 o.2.1 o.2.2 ?_
    refine s_nmH (fun h4 eh4 => ?_)
    have hV := hV h4 eh4
    obtain ⟨o, hV⟩ := hV
    refine s_iinc (lv' := [(2, .inl (x2 + (-1))), (0, .inr (.inr x0)), (1, .inl x1)]) d_X12_logs_47 (ma 2 rfl) o (Nat.le_of_ble_eq_true rfl) rfl ?_
    refine s_goto (tgt := 3) d_X12_logs_50 (by decide) ?_
    refine s_pick (lv' := [(0, .inr (.inr x0)), (1, .inl x1), (2, .inl (x2 + (-1)))]) [1, 2, 0] rfl ?_
    exact hP3 _ _ hV
def V_X12_logs (x0 : Nat) (x1 : Int) (h : Hp) (Q : Hp → Prop) : Prop :=
  Lp_X12_logs_3 x0 x1 19 h Q
theorem G_X12_logs {x0 : Nat} {x1 : Int} (h : Hp) (Q : Hp → Prop) (hV : V_X12_logs x0 x1 h Q) : C_X12_logs x0 x1 h Q := by
  unfold V_X12_logs at hV
  show Go i_X12_logs 0 [(0, .inr (.inr x0)), (1, .inl x1)] [] h (qV Q)
  refine s_bipush d_X12_logs_0 (by decide) (okn rfl) ?_
  refine s_istore_n (lv' := [(2, .inl 19), (0, .inr (.inr x0)), (1, .inl x1)]) d_X12_logs_2 rfl (Nat.le_of_ble_eq_true rfl) rfl ?_
  refine s_pick (lv' := [(0, .inr (.inr x0)), (1, .inl x1), (2, .inl 19)]) [1, 2, 0] rfl ?_
  exact GLp_X12_logs_3 _ _ _ _ _ hV

theorem d_X12_read_0 : decode i_X12_read.2.1 0 = .ok (.iload_n 1, 1) := by decide +kernel
theorem d_X12_read_1 : decode i_X12_read.2.1 1 = .ok (.iconst 0, 1) := by decide +kernel
theorem d_X12_read_2 : decode i_X12_read.2.1 2 = .ok (.iconst 5, 1) := by decide +kernel
theorem d_X12_read_3 : decode i_X12_read.2.1 3 = .ok (.invokestatic 90, 3) := by decide +kernel
theorem d_X12_read_6 : decode i_X12_read.2.1 6 = .ok (.ifCond .ne 6, 3) := by decide +kernel
theorem d_X12_read_9 : decode i_X12_read.2.1 9 = .ok (.ldc 94, 2) := by decide +kernel
theorem d_X12_read_11 : decode i_X12_read.2.1 11 = .ok (.ireturn, 1) := by decide +kernel
theorem d_X12_read_12 : decode i_X12_read.2.1 12 = .ok (.aload_n 0, 1) := by decide +kernel
theorem d_X12_read_13 : decode i_X12_read.2.1 13 = .ok (.invokevirtual 205, 3) := by decide +kernel
theorem d_X12_read_16 : decode i_X12_read.2.1 16 = .ok (.aload_n 0, 1) := by decide +kernel
theorem d_X12_read_17 : decode i_X12_read.2.1 17 = .ok (.iload_n 1, 1) := by decide +kernel
theorem d_X12_read_18 : decode i_X12_read.2.1 18 = .ok (.invokevirtual 208, 3) := by decide +kernel
theorem d_X12_read_21 : decode i_X12_read.2.1 21 = .ok (.aload_n 0, 1) := by decide +kernel
theorem d_X12_read_22 : decode i_X12_read.2.1 22 = .ok (.getfield 186, 3) := by decide +kernel
theorem d_X12_read_25 : decode i_X12_read.2.1 25 = .ok (.bipush 60, 2) := by decide +kernel
theorem d_X12_read_27 : decode i_X12_read.2.1 27 = .ok (.if_icmp .gt 14, 3) := by decide +kernel
theorem d_X12_read_30 : decode i_X12_read.2.1 30 = .ok (.aload_n 0, 1) := by decide +kernel
theorem d_X12_read_31 : decode i_X12_read.2.1 31 = .ok (.getfield 32, 3) := by decide +kernel
theorem d_X12_read_34 : decode i_X12_read.2.1 34 = .ok (.iconst 1, 1) := by decide +kernel
theorem d_X12_read_35 : decode i_X12_read.2.1 35 = .ok (.iaload, 1) := by decide +kernel
theorem d_X12_read_36 : decode i_X12_read.2.1 36 = .ok (.ldc 211, 2) := by decide +kernel
theorem d_X12_read_38 : decode i_X12_read.2.1 38 = .ok (.if_icmp .lt 6, 3) := by decide +kernel
theorem d_X12_read_41 : decode i_X12_read.2.1 41 = .ok (.ldc 98, 2) := by decide +kernel
theorem d_X12_read_43 : decode i_X12_read.2.1 43 = .ok (.ireturn, 1) := by decide +kernel
theorem d_X12_read_44 : decode i_X12_read.2.1 44 = .ok (.aload_n 0, 1) := by decide +kernel
theorem d_X12_read_45 : decode i_X12_read.2.1 45 = .ok (.invokevirtual 212, 3) := by decide +kernel
theorem d_X12_read_48 : decode i_X12_read.2.1 48 = .ok (.aload_n 0, 1) := by decide +kernel
theorem d_X12_read_49 : decode i_X12_read.2.1 49 = .ok (.iload_n 1, 1) := by decide +kernel
theorem d_X12_read_50 : decode i_X12_read.2.1 50 = .ok (.invokevirtual 215, 3) := by decide +kernel
theorem d_X12_read_53 : decode i_X12_read.2.1 53 = .ok (.aload_n 0, 1) := by decide +kernel
theorem d_X12_read_54 : decode i_X12_read.2.1 54 = .ok (.getfield 186, 3) := by decide +kernel
theorem d_X12_read_57 : decode i_X12_read.2.1 57 = .ok (.ireturn, 1) := by decide +kernel
def V_X12_read (x0 : Nat) (x1 : Int) (h : Hp) (Q : Int → Hp → Prop) : Prop :=
  C_X12_is x1 0 5 h (fun r2 h1 => ((r2 ≠ 0 → (hK h1 x0 = 11 ∧ C_X12_begin x0  h1 (fun h3 => (hK h3 x0 = 11 ∧ C_X12_reads x0 x1 h3 (fun h4 => (hK h4 x0 = 11 ∧ ((60 < hI h4 x0 29 → (Q (-1000000004) h4)) ∧ (¬ 60 < hI h4 x0 29 → (hK h4 x0 = 11 ∧ ((hK h4 (hR h4 x0 14) = 12 ∧ (0 : Int) ≤ 1 ∧ 1 < hL h4 (hR h4 x0 14)) ∧ ((hI h4 (hR h4 x0 14) 1 < 90000 → (hK h4 x0 = 11 ∧ C_X12_note x0  h4 (fun h5 => (hK h5 x0 = 11 ∧ C_X12_logs x0 x1 h5 (fun h6 => (hK h6 x0 = 11 ∧ (Q (hI h6 x0 29) h6))))))) ∧ (¬ hI h4 (hR h4 x0 14) 1 < 90000 → (Q (-1000000004) h4))))))))))))) ∧ (r2 = 0 → (Q (-1000000002) h1))))
theorem G_X12_read {x0 : Nat} {x1 : Int} (h : Hp) (Q : Int → Hp → Prop) (hV : V_X12_read x0 x1 h Q) : C_X12_read x0 x1 h Q := by
  unfold V_X12_read at hV
  show Go i_X12_read 0 [(0, .inr (.inr x0)), (1, .inl x1)] [] h (qI Q)
  refine s_iload_n d_X12_read_0 rfl (ma 1 rfl) ?_
  refine s_iconst d_X12_read_1 (okn rfl) ?_
  refine s_iconst d_X12_read_2 (okn rfl) ?_
  refine v_RX12_90 rfl (Nat.le_of_ble_eq_true rfl) d_X12_read_3 (Nat.le_of_ble_eq_true rfl) hV (fun r2 h1 hV => ?_)
  refine s_if_ne (tgt := 12) d_X12_read_6 (by decide) (fun c => ?_) (fun c => ?_)
  · have hV := hV.1 c
    refine s_aload_n d_X12_read_12 rfl (ma 0 rfl) ?_
    obtain ⟨o, hV⟩ := hV
    refine v_RX12_205 rfl (Nat.le_of_ble_eq_true rfl) d_X12_read_13 o (Nat.le_of_ble_eq_true rfl) hV (fun h3 hV => ?_)
    refine s_aload_n d_X12_read_16 rfl (ma 0 rfl) ?_
    refine s_iload_n d_X12_read_17 rfl (ma 1 rfl) ?_
    obtain ⟨o, hV⟩ := hV
    refine v_RX12_208 rfl (Nat.le_of_ble_eq_true rfl) d_X12_read_18 o (Nat.le_of_ble_eq_true rfl) hV (fun h4 hV => ?_)
    refine s_aload_n d_X12_read_21 rfl (ma 0 rfl) ?_
    obtain ⟨o, hV⟩ := hV
    refine f_RX12_186g rfl d_X12_read_22 o ?_
    refine s_bipush d_X12_read_25 (by decide) (okn rfl) ?_
    refine s_icmp_gt (tgt := 41) d_X12_read_27 (by decide) (fun c => ?_) (fun c => ?_)
    · have hV := hV.1 c
      refine s_ldc (n := (-1000000004)) d_X12_read_41 k_RX12_98 (by decide) (okn rfl) ?_
      exact s_iret d_X12_read_43 rfl rfl ⟨_, rfl, hV⟩
    · have hV := hV.2 c
      refine s_aload_n d_X12_read_30 rfl (ma 0 rfl) ?_
      obtain ⟨o, hV⟩ := hV
      refine f_RX12_32g rfl d_X12_read_31 o ?_
      refine s_iconst d_X12_read_34 (okn rfl) ?_
      obtain ⟨o, hV⟩ := hV
      refine s_iald d_X12_read_35 o.1 o.2.1 o.2.2 ?_
      refine s_ldc (n := 90000) d_X12_read_36 k_RX12_211 (by decide) (okn rfl) ?_
      refine s_icmp_lt (tgt := 44) d_X12_read_38 (by decide) (fun c => ?_) (fun c => ?_)
      · have hV := hV.1 c
        refine s_aload_n d_X12_read_44 rfl (ma 0 rfl) ?_
        obtain ⟨o, hV⟩ := hV
        refine v_RX12_212 rfl (Nat.le_of_ble_eq_true rfl) d_X12_read_45 o (Nat.le_of_ble_eq_true rfl) hV (fun h5 hV => ?_)
        refine s_aload_n d_X12_read_48 rfl (ma 0 rfl) ?_
        refine s_iload_n d_X12_read_49 rfl (ma 1 rfl) ?_
        obtain ⟨o, hV⟩ := hV
        refine v_RX12_215 rfl (Nat.le_of_ble_eq_true rfl) d_X12_read_50 o (Nat.le_of_ble_eq_true rfl) hV (fun h6 hV => ?_)
        refine s_aload_n d_X12_read_53 rfl (ma 0 rfl) ?_
        obtain ⟨o, hV⟩ := hV
        refine f_RX12_186g rfl d_X12_read_54 o ?_
        exact s_iret d_X12_read_57 rfl rfl ⟨_, rfl, hV⟩
      · have hV := hV.2 c
        refine s_ldc (n := (-1000000004)) d_X12_read_41 k_RX12_98 (by decide) (okn rfl) ?_
        exact s_iret d_X12_read_43 rfl rfl ⟨_, rfl, hV⟩
  · have hV := hV.2 c
    refine s_ldc (n := (-1000000002)) d_X12_read_9 k_RX12_94 (by decide) (okn rfl) ?_
    exact s_iret d_X12_read_11 rfl rfl ⟨_, rfl, hV⟩

theorem d_X12_isUnread_0 : decode i_X12_isUnread.2.1 0 = .ok (.aload_n 0, 1) := by decide +kernel
theorem d_X12_isUnread_1 : decode i_X12_isUnread.2.1 1 = .ok (.getfield 186, 3) := by decide +kernel
theorem d_X12_isUnread_4 : decode i_X12_isUnread.2.1 4 = .ok (.iconst 2, 1) := by decide +kernel
theorem d_X12_isUnread_5 : decode i_X12_isUnread.2.1 5 = .ok (.irem, 1) := by decide +kernel
theorem d_X12_isUnread_6 : decode i_X12_isUnread.2.1 6 = .ok (.iconst 1, 1) := by decide +kernel
theorem d_X12_isUnread_7 : decode i_X12_isUnread.2.1 7 = .ok (.if_icmp .ne 5, 3) := by decide +kernel
theorem d_X12_isUnread_10 : decode i_X12_isUnread.2.1 10 = .ok (.iconst 0, 1) := by decide +kernel
theorem d_X12_isUnread_11 : decode i_X12_isUnread.2.1 11 = .ok (.ireturn, 1) := by decide +kernel
theorem d_X12_isUnread_12 : decode i_X12_isUnread.2.1 12 = .ok (.aload_n 0, 1) := by decide +kernel
theorem d_X12_isUnread_13 : decode i_X12_isUnread.2.1 13 = .ok (.iconst 0, 1) := by decide +kernel
theorem d_X12_isUnread_14 : decode i_X12_isUnread.2.1 14 = .ok (.putfield 113, 3) := by decide +kernel
theorem d_X12_isUnread_17 : decode i_X12_isUnread.2.1 17 = .ok (.iconst 0, 1) := by decide +kernel
theorem d_X12_isUnread_18 : decode i_X12_isUnread.2.1 18 = .ok (.istore_n 1, 1) := by decide +kernel
theorem d_X12_isUnread_19 : decode i_X12_isUnread.2.1 19 = .ok (.iload_n 1, 1) := by decide +kernel
theorem d_X12_isUnread_20 : decode i_X12_isUnread.2.1 20 = .ok (.aload_n 0, 1) := by decide +kernel
theorem d_X12_isUnread_21 : decode i_X12_isUnread.2.1 21 = .ok (.getfield 186, 3) := by decide +kernel
theorem d_X12_isUnread_24 : decode i_X12_isUnread.2.1 24 = .ok (.if_icmp .ge 96, 3) := by decide +kernel
theorem d_X12_isUnread_27 : decode i_X12_isUnread.2.1 27 = .ok (.iload_n 1, 1) := by decide +kernel
theorem d_X12_isUnread_28 : decode i_X12_isUnread.2.1 28 = .ok (.ifCond .le 26, 3) := by decide +kernel
theorem d_X12_isUnread_31 : decode i_X12_isUnread.2.1 31 = .ok (.aload_n 0, 1) := by decide +kernel
theorem d_X12_isUnread_32 : decode i_X12_isUnread.2.1 32 = .ok (.getfield 63, 3) := by decide +kernel
theorem d_X12_isUnread_35 : decode i_X12_isUnread.2.1 35 = .ok (.iload_n 1, 1) := by decide +kernel
theorem d_X12_isUnread_36 : decode i_X12_isUnread.2.1 36 = .ok (.iconst 1, 1) := by decide +kernel
theorem d_X12_isUnread_37 : decode i_X12_isUnread.2.1 37 = .ok (.iadd, 1) := by decide +kernel
theorem d_X12_isUnread_38 : decode i_X12_isUnread.2.1 38 = .ok (.iaload, 1) := by decide +kernel
theorem d_X12_isUnread_39 : decode i_X12_isUnread.2.1 39 = .ok (.aload_n 0, 1) := by decide +kernel
theorem d_X12_isUnread_40 : decode i_X12_isUnread.2.1 40 = .ok (.getfield 63, 3) := by decide +kernel
theorem d_X12_isUnread_43 : decode i_X12_isUnread.2.1 43 = .ok (.iload_n 1, 1) := by decide +kernel
theorem d_X12_isUnread_44 : decode i_X12_isUnread.2.1 44 = .ok (.iconst 1, 1) := by decide +kernel
theorem d_X12_isUnread_45 : decode i_X12_isUnread.2.1 45 = .ok (.isub, 1) := by decide +kernel
theorem d_X12_isUnread_46 : decode i_X12_isUnread.2.1 46 = .ok (.iaload, 1) := by decide +kernel
theorem d_X12_isUnread_47 : decode i_X12_isUnread.2.1 47 = .ok (.if_icmp .ne 7, 3) := by decide +kernel
theorem d_X12_isUnread_50 : decode i_X12_isUnread.2.1 50 = .ok (.iconst 1, 1) := by decide +kernel
theorem d_X12_isUnread_51 : decode i_X12_isUnread.2.1 51 = .ok (.goto 4, 3) := by decide +kernel
theorem d_X12_isUnread_54 : decode i_X12_isUnread.2.1 54 = .ok (.iconst 0, 1) := by decide +kernel
theorem d_X12_isUnread_55 : decode i_X12_isUnread.2.1 55 = .ok (.istore_n 2, 1) := by decide +kernel
theorem d_X12_isUnread_56 : decode i_X12_isUnread.2.1 56 = .ok (.aload_n 0, 1) := by decide +kernel
theorem d_X12_isUnread_57 : decode i_X12_isUnread.2.1 57 = .ok (.getfield 63, 3) := by decide +kernel
theorem d_X12_isUnread_60 : decode i_X12_isUnread.2.1 60 = .ok (.iload_n 1, 1) := by decide +kernel
theorem d_X12_isUnread_61 : decode i_X12_isUnread.2.1 61 = .ok (.iaload, 1) := by decide +kernel
theorem d_X12_isUnread_62 : decode i_X12_isUnread.2.1 62 = .ok (.ifCond .eq 20, 3) := by decide +kernel
theorem d_X12_isUnread_65 : decode i_X12_isUnread.2.1 65 = .ok (.iload_n 2, 1) := by decide +kernel
theorem d_X12_isUnread_66 : decode i_X12_isUnread.2.1 66 = .ok (.ifCond .eq 18, 3) := by decide +kernel
theorem d_X12_isUnread_69 : decode i_X12_isUnread.2.1 69 = .ok (.aload_n 0, 1) := by decide +kernel
theorem d_X12_isUnread_70 : decode i_X12_isUnread.2.1 70 = .ok (.getfield 63, 3) := by decide +kernel
theorem d_X12_isUnread_73 : decode i_X12_isUnread.2.1 73 = .ok (.iload_n 1, 1) := by decide +kernel
theorem d_X12_isUnread_74 : decode i_X12_isUnread.2.1 74 = .ok (.iconst 2, 1) := by decide +kernel
theorem d_X12_isUnread_75 : decode i_X12_isUnread.2.1 75 = .ok (.isub, 1) := by decide +kernel
theorem d_X12_isUnread_76 : decode i_X12_isUnread.2.1 76 = .ok (.iaload, 1) := by decide +kernel
theorem d_X12_isUnread_77 : decode i_X12_isUnread.2.1 77 = .ok (.bipush 9, 2) := by decide +kernel
theorem d_X12_isUnread_79 : decode i_X12_isUnread.2.1 79 = .ok (.if_icmp .eq 5, 3) := by decide +kernel
theorem d_X12_isUnread_82 : decode i_X12_isUnread.2.1 82 = .ok (.iconst 0, 1) := by decide +kernel
theorem d_X12_isUnread_83 : decode i_X12_isUnread.2.1 83 = .ok (.ireturn, 1) := by decide +kernel
theorem d_X12_isUnread_84 : decode i_X12_isUnread.2.1 84 = .ok (.iconst 0, 1) := by decide +kernel
theorem d_X12_isUnread_85 : decode i_X12_isUnread.2.1 85 = .ok (.istore_n 3, 1) := by decide +kernel
theorem d_X12_isUnread_86 : decode i_X12_isUnread.2.1 86 = .ok (.iload_n 3, 1) := by decide +kernel
theorem d_X12_isUnread_87 : decode i_X12_isUnread.2.1 87 = .ok (.aload_n 0, 1) := by decide +kernel
theorem d_X12_isUnread_88 : decode i_X12_isUnread.2.1 88 = .ok (.getfield 63, 3) := by decide +kernel
theorem d_X12_isUnread_91 : decode i_X12_isUnread.2.1 91 = .ok (.iload_n 1, 1) := by decide +kernel
theorem d_X12_isUnread_92 : decode i_X12_isUnread.2.1 92 = .ok (.iaload, 1) := by decide +kernel
theorem d_X12_isUnread_93 : decode i_X12_isUnread.2.1 93 = .ok (.if_icmp .ge 21, 3) := by decide +kernel
theorem d_X12_isUnread_96 : decode i_X12_isUnread.2.1 96 = .ok (.aload_n 0, 1) := by decide +kernel
theorem d_X12_isUnread_97 : decode i_X12_isUnread.2.1 97 = .ok (.aload_n 0, 1) := by decide +kernel
theorem d_X12_isUnread_98 : decode i_X12_isUnread.2.1 98 = .ok (.getfield 63, 3) := by decide +kernel
theorem d_X12_isUnread_101 : decode i_X12_isUnread.2.1 101 = .ok (.iload_n 1, 1) := by decide +kernel
theorem d_X12_isUnread_102 : decode i_X12_isUnread.2.1 102 = .ok (.iconst 1, 1) := by decide +kernel
theorem d_X12_isUnread_103 : decode i_X12_isUnread.2.1 103 = .ok (.iadd, 1) := by decide +kernel
theorem d_X12_isUnread_104 : decode i_X12_isUnread.2.1 104 = .ok (.iaload, 1) := by decide +kernel
theorem d_X12_isUnread_105 : decode i_X12_isUnread.2.1 105 = .ok (.invokevirtual 182, 3) := by decide +kernel
theorem d_X12_isUnread_108 : decode i_X12_isUnread.2.1 108 = .ok (.iinc 3 1, 3) := by decide +kernel
theorem d_X12_isUnread_111 : decode i_X12_isUnread.2.1 111 = .ok (.goto (-25), 3) := by decide +kernel
theorem d_X12_isUnread_114 : decode i_X12_isUnread.2.1 114 = .ok (.iinc 1 2, 3) := by decide +kernel
theorem d_X12_isUnread_117 : decode i_X12_isUnread.2.1 117 = .ok (.goto (-98), 3) := by decide +kernel
theorem d_X12_isUnread_120 : decode i_X12_isUnread.2.1 120 = .ok (.iconst 1, 1) := by decide +kernel
theorem d_X12_isUnread_121 : decode i_X12_isUnread.2.1 121 = .ok (.ireturn, 1) := by decide +kernel
def BLp_X12_isUnread_86 (P19 : Int → Hp → Prop) (x0 : Nat) (x1 : Int) (P86 : Int → Hp → Prop) (x3 : Int) (h : Hp) (Q : Int → Hp → Prop) : Prop :=
  hK h x0 = 11 ∧ ((hK h (hR h x0 28) = 12 ∧ (0 : Int) ≤ x1 ∧ x1 < hL h (hR h x0 28)) ∧ ((hI h (hR h x0 28) x1 ≤ x3 → (((-2147483648 : Int) ≤ x1 + 2 ∧ x1 + 2 ≤ (2147483647 : Int)) ∧ (P19 (x1 + 2) h))) ∧ (¬ hI h (hR h x0 28) x1 ≤ x3 → (hK h x0 = 11 ∧ (((-2147483648 : Int) ≤ x1 + 1 ∧ x1 + 1 ≤ (2147483647 : Int)) ∧ ((hK h (hR h x0 28) = 12 ∧ (0 : Int) ≤ x1 + 1 ∧ x1 + 1 < hL h (hR h x0 28)) ∧ (hK h x0 = 11 ∧ C_X12_say x0 (hI h (hR h x0 28) (x1 + 1)) h (fun h1 => (((-2147483648 : Int) ≤ x3 + 1 ∧ x3 + 1 ≤ (2147483647 : Int)) ∧ (P86 (x3 + 1) h1))))))))))
def Lp_X12_isUnread_86 (P19 : Int → Hp → Prop) (x0 : Nat) (x1 : Int) (x3 : Int) (h : Hp) (Q : Int → Hp → Prop) : Prop := ∀ P86 : Int → Hp → Prop, (∀ (x3 : Int) (h : Hp), BLp_X12_isUnread_86 P19 x0 x1 P86 x3 h Q → P86 x3 h) → P86 x3 h
theorem Lp_X12_isUnread_86_ind {P19 : Int → Hp → Prop} {x0 : Nat} {x1 : Int} {Q : Int → Hp → Prop} (I : Int → Hp → Prop) (μ : Int → Hp → Nat) (hs : ∀ (P86 : Int → Hp → Prop) (x3 : Int) (h : Hp), I x3 h → (∀ (x3' : Int) (h' : Hp), I x3' h' → μ x3' h' < μ x3 h → P86 x3' h') → BLp_X12_isUnread_86 P19 x0 x1 P86 x3 h Q) : ∀ (x3 : Int) (h : Hp), I x3 h → Lp_X12_isUnread_86 P19 x0 x1 x3 h Q := by
  intro x3 h hI P86 hP
  have key : ∀ (n : Nat) (x3 : Int) (h : Hp), I x3 h → μ x3 h < n → P86 x3 h := by
    intro n
    induction n with
    | zero => intro x3 h _ hl; exact absurd hl (Nat.not_lt_zero _)
    | succ n ih => intro x3 h hi hl; exact hP x3 h (hs P86 x3 h hi (fun x3 h' hi' hl' => ih x3 h' hi' (by omega)))
  exact key _ x3 h hI (Nat.lt_succ_self _)
theorem GLp_X12_isUnread_86 {P19 : Int → Hp → Prop} (x0 : Nat) (x1 : Int) (x3 : Int) (h : Hp) (Q : Int → Hp → Prop) (hP19 : ∀ (m1 : Int) (h : Hp), P19 m1 h → Go i_X12_isUnread 19 [(0, .inr (.inr x0)), (1, .inl m1)] [] h (qI Q)) (hV : Lp_X12_isUnread_86 P19 x0 x1 x3 h Q) : Go i_X12_isUnread 86 [(0, .inr (.inr x0)), (1, .inl x1), (3, .inl x3)] [] h (qI Q) := by
  refine hV (fun x3 h => Go i_X12_isUnread 86 [(0, .inr (.inr x0)), (1, .inl x1), (3, .inl x3)] [] h (qI Q)) (fun x3 h hV => ?_)
  unfold BLp_X12_isUnread_86 at hV
  have hP86 : ∀ (x3 : Int) (h : Hp), Go i_X12_isUnread 86 [(0, .inr (.inr x0)), (1, .inl x1), (3, .inl x3)] [] h (qI Q) → Go i_X12_isUnread 86 [(0, .inr (.inr x0)), (1, .inl x1), (3, .inl x3)] [] h (qI Q) := fun _ h z => z
  refine s_iload_n d_X12_isUnread_86 rfl (ma 2 rfl) ?_
  refine s_aload_n d_X12_isUnread_87 rfl (ma 0 rfl) ?_
  obtain ⟨o, hV⟩ := hV
  refine f_RX12_63g rfl d_X12_isUnread_88 o ?_
  refine s_iload_n d_X12_isUnread_91 rfl (ma 1 rfl) ?_
  obtain ⟨o, hV⟩ := hV
  refine s_iald d_X12_isUnread_92 o.1 o.2.1 o.2.2 ?_
  refine s_icmp_ge (tgt := 114) d_X12_isUnread_93 (by decide) (fun c => ?_) (fun c => ?_)
  · have hV := hV.1 c
    obtain ⟨o, hV⟩ := hV
    refine s_iinc (lv' := [(1, .inl (x1 + 2)), (0, .inr (.inr x0)), (3, .inl x3)]) d_X12_isUnread_114 (ma 1 rfl) o (Nat.le_of_ble_eq_true rfl) rfl ?_
    refine s_goto (tgt := 19) d_X12_isUnread_117 (by decide) ?_
    refine s_pick (lv' := [(0, .inr (.inr x0)), (1, .inl (x1 + 2))]) [1, 0] rfl ?_
    exact hP19 _ _ hV
  · have hV := hV.2 c
    refine s_aload_n d_X12_isUnread_96 rfl (ma 0 rfl) ?_
    refine s_aload_n d_X12_isUnread_97 rfl (ma 0 rfl) ?_
    obtain ⟨o, hV⟩ := hV
    refine f_RX12_63g rfl d_X12_isUnread_98 o ?_
    refine s_iload_n d_X12_isUnread_101 rfl (ma 1 rfl) ?_
    refine s_iconst d_X12_isUnread_102 (okn rfl) ?_
    obtain ⟨o, hV⟩ := hV
    refine s_iadd d_X12_isUnread_103 o ?_
    obtain ⟨o, hV⟩ := hV
    refine s_iald d_X12_isUnread_104 o.1 o.2.1 o.2.2 ?_
    obtain ⟨o, hV⟩ := hV
    refine v_RX12_182 rfl (Nat.le_of_ble_eq_true rfl) d_X12_isUnread_105 o (Nat.le_of_ble_eq_true rfl) hV (fun h1 hV => ?_)
    obtain ⟨o, hV⟩ := hV
    refine s_iinc (lv' := [(3, .inl (x3 + 1)), (0, .inr (.inr x0)), (1, .inl x1)]) d_X12_isUnread_108 (ma 2 rfl) o (Nat.le_of_ble_eq_true rfl) rfl ?_
    refine s_goto (tgt := 86) d_X12_isUnread_111 (by decide) ?_
    refine s_pick (lv' := [(0, .inr (.inr x0)), (1, .inl x1), (3, .inl (x3 + 1))]) [1, 2, 0] rfl ?_
    exact hP86 _ _ hV
def J_X12_isUnread_55 (P19 : Int → Hp → Prop) (x0 : Nat) (x1 : Int) (y0 : Int) (h : Hp) (Q : Int → Hp → Prop) : Prop :=
  hK h x0 = 11 ∧ ((hK h (hR h x0 28) = 12 ∧ (0 : Int) ≤ x1 ∧ x1 < hL h (hR h x0 28)) ∧ ((hI h (hR h x0 28) x1 = 0 → (Q 0 h)) ∧ (¬ hI h (hR h x0 28) x1 = 0 → ((y0 = 0 → (Lp_X12_isUnread_86 P19 x0 x1 0 h Q)) ∧ (¬ y0 = 0 → (hK h x0 = 11 ∧ (((-2147483648 : Int) ≤ x1 - 2 ∧ x1 - 2 ≤ (2147483647 : Int)) ∧ ((hK h (hR h x0 28) = 12 ∧ (0 : Int) ≤ x1 - 2 ∧ x1 - 2 < hL h (hR h x0 28)) ∧ ((hI h (hR h x0 28) (x1 - 2) = 9 → (Lp_X12_isUnread_86 P19 x0 x1 0 h Q)) ∧ (¬ hI h (hR h x0 28) (x1 - 2) = 9 → (Q 0 h)))))))))))
theorem GJ_X12_isUnread_55 {P19 : Int → Hp → Prop} (x0 : Nat) (x1 : Int) (y0 : Int) (h : Hp) (Q : Int → Hp → Prop) (hP19 : ∀ (m1 : Int) (h : Hp), P19 m1 h → Go i_X12_isUnread 19 [(0, .inr (.inr x0)), (1, .inl m1)] [] h (qI Q)) (hV : J_X12_isUnread_55 P19 x0 x1 y0 h Q) : Go i_X12_isUnread 55 [(0, .inr (.inr x0)), (1, .inl x1)] [.inl y0] h (qI Q) := by
  unfold J_X12_isUnread_55 at hV
  refine s_istore_n (lv' := [(2, .inl y0), (0, .inr (.inr x0)), (1, .inl x1)]) d_X12_isUnread_55 rfl (Nat.le_of_ble_eq_true rfl) rfl ?_
  refine s_aload_n d_X12_isUnread_56 rfl (ma 1 rfl) ?_
  obtain ⟨o, hV⟩ := hV
  refine f_RX12_63g rfl d_X12_isUnread_57 o ?_
  refine s_iload_n d_X12_isUnread_60 rfl (ma 2 rfl) ?_
  obtain ⟨o, hV⟩ := hV
  refine s_iald d_X12_isUnread_61 o.1 o.2.1 o.2.2 ?_
  refine s_if_eq (tgt := 82) d_X12_isUnread_62 (by decide) (fun c => ?_) (fun c => ?_)
  · have hV := hV.1 c
    refine s_iconst d_X12_isUnread_82 (okn rfl) ?_
    exact s_iret d_X12_isUnread_83 rfl (nar_z (Or.inl rfl)) ⟨_, rfl, hV⟩
  · have hV := hV.2 c
    refine s_iload_n d_X12_isUnread_65 rfl (ma 0 rfl) ?_
    refine s_if_eq (tgt := 84) d_X12_isUnread_66 (by decide) (fun c => ?_) (fun c => ?_)
    · have hV := hV.1 c
      refine s_iconst d_X12_isUnread_84 (okn rfl) ?_
      refine s_istore_n (lv' := [(3, .inl 0), (2, .inl y0), (0, .inr (.inr x0)), (1, .inl x1)]) d_X12_isUnread_85 rfl (Nat.le_of_ble_eq_true rfl) rfl ?_
      refine s_pick (lv' := [(0, .inr (.inr x0)), (1, .inl x1), (3, .inl 0)]) [2, 3, 0] rfl ?_
      exact GLp_X12_isUnread_86 _ _ _ _ _ (by intros; apply hP19; assumption) hV
    · have hV := hV.2 c
      refine s_aload_n d_X12_isUnread_69 rfl (ma 1 rfl) ?_
      obtain ⟨o, hV⟩ := hV
      refine f_RX12_63g rfl d_X12_isUnread_70 o ?_
      refine s_iload_n d_X12_isUnread_73 rfl (ma 2 rfl) ?_
      refine s_iconst d_X12_isUnread_74 (okn rfl) ?_
      obtain ⟨o, hV⟩ := hV
      refine s_isub d_X12_isUnread_75 o ?_
      obtain ⟨o, hV⟩ := hV
      refine s_iald d_X12_isUnread_76 o.1 o.2.1 o.2.2 ?_
      refine s_bipush d_X12_isUnread_77 (by decide) (okn rfl) ?_
      refine s_icmp_eq (tgt := 84) d_X12_isUnread_79 (by decide) (fun c => ?_) (fun c => ?_)
      · have hV := hV.1 c
        refine s_iconst d_X12_isUnread_84 (okn rfl) ?_
        refine s_istore_n (lv' := [(3, .inl 0), (2, .inl y0), (0, .inr (.inr x0)), (1, .inl x1)]) d_X12_isUnread_85 rfl (Nat.le_of_ble_eq_true rfl) rfl ?_
        refine s_pick (lv' := [(0, .inr (.inr x0)), (1, .inl x1), (3, .inl 0)]) [2, 3, 0] rfl ?_
        exact GLp_X12_isUnread_86 _ _ _ _ _ (by intros; apply hP19; assumption) hV
      · have hV := hV.2 c
        refine s_iconst d_X12_isUnread_82 (okn rfl) ?_
        exact s_iret d_X12_isUnread_83 rfl (nar_z (Or.inl rfl)) ⟨_, rfl, hV⟩
def J_X12_isUnread_54 (P19 : Int → Hp → Prop) (x0 : Nat) (x1 : Int) (h : Hp) (Q : Int → Hp → Prop) : Prop :=
  J_X12_isUnread_55 P19 x0 x1 0 h Q
theorem GJ_X12_isUnread_54 {P19 : Int → Hp → Prop} (x0 : Nat) (x1 : Int) (h : Hp) (Q : Int → Hp → Prop) (hP19 : ∀ (m1 : Int) (h : Hp), P19 m1 h → Go i_X12_isUnread 19 [(0, .inr (.inr x0)), (1, .inl m1)] [] h (qI Q)) (hV : J_X12_isUnread_54 P19 x0 x1 h Q) : Go i_X12_isUnread 54 [(0, .inr (.inr x0)), (1, .inl x1)] [] h (qI Q) := by
  unfold J_X12_isUnread_54 at hV
  refine s_iconst d_X12_isUnread_54 (okn rfl) ?_
  exact GJ_X12_isUnread_55 _ _ _ _ _ (by intros; apply hP19; assumption) hV
def BLp_X12_isUnread_19 (x0 : Nat) (P19 : Int → Hp → Prop) (x1 : Int) (h : Hp) (Q : Int → Hp → Prop) : Prop :=
  hK h x0 = 11 ∧ ((hI h x0 29 ≤ x1 → (Q 1 h)) ∧ (¬ hI h x0 29 ≤ x1 → ((x1 ≤ 0 → (J_X12_isUnread_54 P19 x0 x1 h Q)) ∧ (¬ x1 ≤ 0 → (hK h x0 = 11 ∧ (((-2147483648 : Int) ≤ x1 + 1 ∧ x1 + 1 ≤ (2147483647 : Int)) ∧ ((hK h (hR h x0 28) = 12 ∧ (0 : Int) ≤ x1 + 1 ∧ x1 + 1 < hL h (hR h x0 28)) ∧ (hK h x0 = 11 ∧ (((-2147483648 : Int) ≤ x1 - 1 ∧ x1 - 1 ≤ (2147483647 : Int)) ∧ ((hK h (hR h x0 28) = 12 ∧ (0 : Int) ≤ x1 - 1 ∧ x1 - 1 < hL h (hR h x0 28)) ∧ ((hI h (hR h x0 28) (x1 + 1) ≠ hI h (hR h x0 28) (x1 - 1) → (J_X12_isUnread_54 P19 x0 x1 h Q)) ∧ (hI h (hR h x0 28) (x1 + 1) = hI h (hR h x0 28) (x1 - 1) → (J_X12_isUnread_55 P19 x0 x1 1 h Q)))))))))))))
def Lp_X12_isUnread_19 (x0 : Nat) (x1 : Int) (h : Hp) (Q : Int → Hp → Prop) : Prop := ∀ P19 : Int → Hp → Prop, (∀ (x1 : Int) (h : Hp), BLp_X12_isUnread_19 x0 P19 x1 h Q → P19 x1 h) → P19 x1 h
theorem Lp_X12_isUnread_19_ind {x0 : Nat} {Q : Int → Hp → Prop} (I : Int → Hp → Prop) (μ : Int → Hp → Nat) (hs : ∀ (P19 : Int → Hp → Prop) (x1 : Int) (h : Hp), I x1 h → (∀ (x1' : Int) (h' : Hp), I x1' h' → μ x1' h' < μ x1 h → P19 x1' h') → BLp_X12_isUnread_19 x0 P19 x1 h Q) : ∀ (x1 : Int) (h : Hp), I x1 h → Lp_X12_isUnread_19 x0 x1 h Q := by
  intro x1 h hI P19 hP
  have key : ∀ (n : Nat) (x1 : Int) (h : Hp), I x1 h → μ x1 h < n → P19 x1 h := by
    intro n
    induction n with
    | zero => intro x1 h _ hl; exact absurd hl (Nat.not_lt_zero _)
    | succ n ih => intro x1 h hi hl; exact hP x1 h (hs P19 x1 h hi (fun x1 h' hi' hl' => ih x1 h' hi' (by omega)))
  exact key _ x1 h hI (Nat.lt_succ_self _)
theorem GLp_X12_isUnread_19 (x0 : Nat) (x1 : Int) (h : Hp) (Q : Int → Hp → Prop) (hV : Lp_X12_isUnread_19 x0 x1 h Q) : Go i_X12_isUnread 19 [(0, .inr (.inr x0)), (1, .inl x1)] [] h (qI Q) := by
  refine hV (fun x1 h => Go i_X12_isUnread 19 [(0, .inr (.inr x0)), (1, .inl x1)] [] h (qI Q)) (fun x1 h hV => ?_)
  unfold BLp_X12_isUnread_19 at hV
  have hP19 : ∀ (x1 : Int) (h : Hp), Go i_X12_isUnread 19 [(0, .inr (.inr x0)), (1, .inl x1)] [] h (qI Q) → Go i_X12_isUnread 19 [(0, .inr (.inr x0)), (1, .inl x1)] [] h (qI Q) := fun _ h z => z
  refine s_iload_n d_X12_isUnread_19 rfl (ma 1 rfl) ?_
  refine s_aload_n d_X12_isUnread_20 rfl (ma 0 rfl) ?_
  obtain ⟨o, hV⟩ := hV
  refine f_RX12_186g rfl d_X12_isUnread_21 o ?_
  refine s_icmp_ge (tgt := 120) d_X12_isUnread_24 (by decide) (fun c => ?_) (fun c => ?_)
  · have hV := hV.1 c
    refine s_iconst d_X12_isUnread_120 (okn rfl) ?_
    exact s_iret d_X12_isUnread_121 rfl (nar_z (Or.inr rfl)) ⟨_, rfl, hV⟩
  · have hV := hV.2 c
    refine s_iload_n d_X12_isUnread_27 rfl (ma 1 rfl) ?_
    refine s_if_le (tgt := 54) d_X12_isUnread_28 (by decide) (fun c => ?_) (fun c => ?_)
    · have hV := hV.1 c
      exact GJ_X12_isUnread_54 _ _ _ _ (by intros; apply hP19; assumption) hV
    · have hV := hV.2 c
      refine s_aload_n d_X12_isUnread_31 rfl (ma 0 rfl) ?_
      obtain ⟨o, hV⟩ := hV
      refine f_RX12_63g rfl d_X12_isUnread_32 o ?_
      refine s_iload_n d_X12_isUnread_35 rfl (ma 1 rfl) ?_
      refine s_iconst d_X12_isUnread_36 (okn rfl) ?_
      obtain ⟨o, hV⟩ := hV
      refine s_iadd d_X12_isUnread_37 o ?_
      obtain ⟨o, hV⟩ := hV
      refine s_iald d_X12_isUnread_38 o.1 o.2.1 o.2.2 ?_
      refine s_aload_n d_X12_isUnread_39 rfl (ma 0 rfl) ?_
      obtain ⟨o, hV⟩ := hV
      refine f_RX12_63g rfl d_X12_isUnread_40 o ?_
      refine s_iload_n d_X12_isUnread_43 rfl (ma 1 rfl) ?_
      refine s_iconst d_X12_isUnread_44 (okn rfl) ?_
      obtain ⟨o, hV⟩ := hV
      refine s_isub d_X12_isUnread_45 o ?_
      obtain ⟨o, hV⟩ := hV
      refine s_iald d_X12_isUnread_46 o.1 o.2.1 o.2.2 ?_
      refine s_icmp_ne (tgt := 54) d_X12_isUnread_47 (by decide) (fun c => ?_) (fun c => ?_)
      · have hV := hV.1 c
        exact GJ_X12_isUnread_54 _ _ _ _ (by intros; apply hP19; assumption) hV
      · have hV := hV.2 c
        refine s_iconst d_X12_isUnread_50 (okn rfl) ?_
        refine s_goto (tgt := 55) d_X12_isUnread_51 (by decide) ?_
        exact GJ_X12_isUnread_55 _ _ _ _ _ (by intros; apply hP19; assumption) hV
def V_X12_isUnread (x0 : Nat) (h : Hp) (Q : Int → Hp → Prop) : Prop :=
  hK h x0 = 11 ∧ (((0 : Int) ≤ hI h x0 29 ∧ (0 : Int) < 2) ∧ (((hI h x0 29) % 2 ≠ 1 → (hK h x0 = 11 ∧ ∀ h1 : Hp, h1 = wI h x0 31 0 → (Lp_X12_isUnread_19 x0 0 h1 Q))) ∧ ((hI h x0 29) % 2 = 1 → (Q 0 h))))
theorem G_X12_isUnread {x0 : Nat} (h : Hp) (Q : Int → Hp → Prop) (hV : V_X12_isUnread x0 h Q) : C_X12_isUnread x0 h Q := by
  unfold V_X12_isUnread at hV
  show Go i_X12_isUnread 0 [(0, .inr (.inr x0))] [] h (qI Q)
  refine s_aload_n d_X12_isUnread_0 rfl (ma 0 rfl) ?_
  obtain ⟨o, hV⟩ := hV
  refine f_RX12_186g rfl d_X12_isUnread_1 o ?_
  refine s_iconst d_X12_isUnread_4 (okn rfl) ?_
  obtain ⟨o, hV⟩ := hV
  refine s_irem d_X12_isUnread_5 o.1 o.2 ?_
  refine s_iconst d_X12_isUnread_6 (okn rfl) ?_
  refine s_icmp_ne (tgt := 12) d_X12_isUnread_7 (by decide) (fun c => ?_) (fun c => ?_)
  · have hV := hV.1 c
    refine s_aload_n d_X12_isUnread_12 rfl (ma 0 rfl) ?_
    refine s_iconst d_X12_isUnread_13 (okn rfl) ?_
    obtain ⟨o, hV⟩ := hV
    refine f_RX12_113p rfl d_X12_isUnread_14 o (fun h1 eh1 => ?_)
    have hV := hV h1 eh1
    refine s_iconst d_X12_isUnread_17 (okn rfl) ?_
    refine s_istore_n (lv' := [(1, .inl 0), (0, .inr (.inr x0))]) d_X12_isUnread_18 rfl (Nat.le_of_ble_eq_true rfl) rfl ?_
    refine s_pick (lv' := [(0, .inr (.inr x0)), (1, .inl 0)]) [1, 0] rfl ?_
    exact GLp_X12_isUnread_19 _ _ _ _ hV
  · have hV := hV.2 c
    refine s_iconst d_X12_isUnread_10 (okn rfl) ?_
    exact s_iret d_X12_isUnread_11 rfl (nar_z (Or.inl rfl)) ⟨_, rfl, hV⟩

theorem d_X12_unread_0 : decode i_X12_unread.2.1 0 = .ok (.aload_n 0, 1) := by decide +kernel
theorem d_X12_unread_1 : decode i_X12_unread.2.1 1 = .ok (.invokevirtual 205, 3) := by decide +kernel
theorem d_X12_unread_4 : decode i_X12_unread.2.1 4 = .ok (.aload_n 0, 1) := by decide +kernel
theorem d_X12_unread_5 : decode i_X12_unread.2.1 5 = .ok (.invokevirtual 218, 3) := by decide +kernel
theorem d_X12_unread_8 : decode i_X12_unread.2.1 8 = .ok (.ifCond .ne 6, 3) := by decide +kernel
theorem d_X12_unread_11 : decode i_X12_unread.2.1 11 = .ok (.ldc 221, 2) := by decide +kernel
theorem d_X12_unread_13 : decode i_X12_unread.2.1 13 = .ok (.ireturn, 1) := by decide +kernel
theorem d_X12_unread_14 : decode i_X12_unread.2.1 14 = .ok (.aload_n 0, 1) := by decide +kernel
theorem d_X12_unread_15 : decode i_X12_unread.2.1 15 = .ok (.getfield 113, 3) := by decide +kernel
theorem d_X12_unread_18 : decode i_X12_unread.2.1 18 = .ok (.bipush 60, 2) := by decide +kernel
theorem d_X12_unread_20 : decode i_X12_unread.2.1 20 = .ok (.if_icmp .le 6, 3) := by decide +kernel
theorem d_X12_unread_23 : decode i_X12_unread.2.1 23 = .ok (.ldc 98, 2) := by decide +kernel
theorem d_X12_unread_25 : decode i_X12_unread.2.1 25 = .ok (.ireturn, 1) := by decide +kernel
theorem d_X12_unread_26 : decode i_X12_unread.2.1 26 = .ok (.aload_n 0, 1) := by decide +kernel
theorem d_X12_unread_27 : decode i_X12_unread.2.1 27 = .ok (.invokevirtual 212, 3) := by decide +kernel
theorem d_X12_unread_30 : decode i_X12_unread.2.1 30 = .ok (.aload_n 0, 1) := by decide +kernel
theorem d_X12_unread_31 : decode i_X12_unread.2.1 31 = .ok (.getfield 32, 3) := by decide +kernel
theorem d_X12_unread_34 : decode i_X12_unread.2.1 34 = .ok (.iconst 0, 1) := by decide +kernel
theorem d_X12_unread_35 : decode i_X12_unread.2.1 35 = .ok (.aload_n 0, 1) := by decide +kernel
theorem d_X12_unread_36 : decode i_X12_unread.2.1 36 = .ok (.getfield 113, 3) := by decide +kernel
theorem d_X12_unread_39 : decode i_X12_unread.2.1 39 = .ok (.iastore, 1) := by decide +kernel
theorem d_X12_unread_40 : decode i_X12_unread.2.1 40 = .ok (.aload_n 0, 1) := by decide +kernel
theorem d_X12_unread_41 : decode i_X12_unread.2.1 41 = .ok (.getfield 66, 3) := by decide +kernel
theorem d_X12_unread_44 : decode i_X12_unread.2.1 44 = .ok (.iconst 0, 1) := by decide +kernel
theorem d_X12_unread_45 : decode i_X12_unread.2.1 45 = .ok (.aload_n 0, 1) := by decide +kernel
theorem d_X12_unread_46 : decode i_X12_unread.2.1 46 = .ok (.getfield 32, 3) := by decide +kernel
theorem d_X12_unread_49 : decode i_X12_unread.2.1 49 = .ok (.iconst 3, 1) := by decide +kernel
theorem d_X12_unread_50 : decode i_X12_unread.2.1 50 = .ok (.aload_n 0, 1) := by decide +kernel
theorem d_X12_unread_51 : decode i_X12_unread.2.1 51 = .ok (.getfield 113, 3) := by decide +kernel
theorem d_X12_unread_54 : decode i_X12_unread.2.1 54 = .ok (.invokestatic 136, 3) := by decide +kernel
theorem d_X12_unread_57 : decode i_X12_unread.2.1 57 = .ok (.aload_n 0, 1) := by decide +kernel
theorem d_X12_unread_58 : decode i_X12_unread.2.1 58 = .ok (.getfield 113, 3) := by decide +kernel
theorem d_X12_unread_61 : decode i_X12_unread.2.1 61 = .ok (.ireturn, 1) := by decide +kernel
def V_X12_unread (x0 : Nat) (h : Hp) (Q : Int → Hp → Prop) : Prop :=
  hK h x0 = 11 ∧ C_X12_begin x0  h (fun h1 => (hK h1 x0 = 11 ∧ C_X12_isUnread x0  h1 (fun r3 h2 => ((r3 ≠ 0 → (hK h2 x0 = 11 ∧ ((hI h2 x0 31 ≤ 60 → (hK h2 x0 = 11 ∧ C_X12_note x0  h2 (fun h4 => (hK h4 x0 = 11 ∧ (hK h4 x0 = 11 ∧ ((hK h4 (hR h4 x0 14) = 12 ∧ (0 : Int) ≤ 0 ∧ 0 < hL h4 (hR h4 x0 14)) ∧ ∀ h5 : Hp, h5 = wI h4 (hR h4 x0 14) 0 (hI h4 x0 31) → (hK h5 x0 = 11 ∧ (hK h5 x0 = 11 ∧ (hK h5 x0 = 11 ∧ (C_X12_bring (hR h5 x0 30) 0 (hR h5 x0 14) 3 (hI h5 x0 31) h5 (fun h6 => (hK h6 x0 = 11 ∧ (Q (hI h6 x0 31) h6))))))))))))) ∧ (¬ hI h2 x0 31 ≤ 60 → (Q (-1000000004) h2))))) ∧ (r3 = 0 → (Q (-1000000003) h2))))))
theorem G_X12_unread {x0 : Nat} (h : Hp) (Q : Int → Hp → Prop) (hV : V_X12_unread x0 h Q) : C_X12_unread x0 h Q := by
  unfold V_X12_unread at hV
  show Go i_X12_unread 0 [(0, .inr (.inr x0))] [] h (qI Q)
  refine s_aload_n d_X12_unread_0 rfl (ma 0 rfl) ?_
  obtain ⟨o, hV⟩ := hV
  refine v_RX12_205 rfl (Nat.le_of_ble_eq_true rfl) d_X12_unread_1 o (Nat.le_of_ble_eq_true rfl) hV (fun h1 hV => ?_)
  refine s_aload_n d_X12_unread_4 rfl (ma 0 rfl) ?_
  obtain ⟨o, hV⟩ := hV
  refine v_RX12_218 rfl (Nat.le_of_ble_eq_true rfl) d_X12_unread_5 o (Nat.le_of_ble_eq_true rfl) hV (fun r3 h2 hV => ?_)
  refine s_if_ne (tgt := 14) d_X12_unread_8 (by decide) (fun c => ?_) (fun c => ?_)
  · have hV := hV.1 c
    refine s_aload_n d_X12_unread_14 rfl (ma 0 rfl) ?_
    obtain ⟨o, hV⟩ := hV
    refine f_RX12_113g rfl d_X12_unread_15 o ?_
    refine s_bipush d_X12_unread_18 (by decide) (okn rfl) ?_
    refine s_icmp_le (tgt := 26) d_X12_unread_20 (by decide) (fun c => ?_) (fun c => ?_)
    · have hV := hV.1 c
      refine s_aload_n d_X12_unread_26 rfl (ma 0 rfl) ?_
      obtain ⟨o, hV⟩ := hV
      refine v_RX12_212 rfl (Nat.le_of_ble_eq_true rfl) d_X12_unread_27 o (Nat.le_of_ble_eq_true rfl) hV (fun h4 hV => ?_)
      refine s_aload_n d_X12_unread_30 rfl (ma 0 rfl) ?_
      obtain ⟨o, hV⟩ := hV
      refine f_RX12_32g rfl d_X12_unread_31 o ?_
      refine s_iconst d_X12_unread_34 (okn rfl) ?_
      refine s_aload_n d_X12_unread_35 rfl (ma 0 rfl) ?_
      obtain ⟨o, hV⟩ := hV
      refine f_RX12_113g rfl d_X12_unread_36 o ?_
      obtain ⟨o, hV⟩ := hV
      refine s_iast d_X12_unread_39 o.1 o.2.1 o.2.2 ?_
      refine s_nmH (fun h5 eh5 => ?_)
      have hV := hV h5 eh5
      refine s_aload_n d_X12_unread_40 rfl (ma 0 rfl) ?_
      obtain ⟨o, hV⟩ := hV
      refine f_RX12_66g rfl d_X12_unread_41 o ?_
      refine s_iconst d_X12_unread_44 (okn rfl) ?_
      refine s_aload_n d_X12_unread_45 rfl (ma 0 rfl) ?_
      obtain ⟨o, hV⟩ := hV
      refine f_RX12_32g rfl d_X12_unread_46 o ?_
      refine s_iconst d_X12_unread_49 (okn rfl) ?_
      refine s_aload_n d_X12_unread_50 rfl (ma 0 rfl) ?_
      obtain ⟨o, hV⟩ := hV
      refine f_RX12_113g rfl d_X12_unread_51 o ?_
      refine v_RX12_136 rfl (Nat.le_of_ble_eq_true rfl) d_X12_unread_54 (Nat.le_of_ble_eq_true rfl) hV (fun h6 hV => ?_)
      refine s_aload_n d_X12_unread_57 rfl (ma 0 rfl) ?_
      obtain ⟨o, hV⟩ := hV
      refine f_RX12_113g rfl d_X12_unread_58 o ?_
      exact s_iret d_X12_unread_61 rfl rfl ⟨_, rfl, hV⟩
    · have hV := hV.2 c
      refine s_ldc (n := (-1000000004)) d_X12_unread_23 k_RX12_98 (by decide) (okn rfl) ?_
      exact s_iret d_X12_unread_25 rfl rfl ⟨_, rfl, hV⟩
  · have hV := hV.2 c
    refine s_ldc (n := (-1000000003)) d_X12_unread_11 k_RX12_221 (by decide) (okn rfl) ?_
    exact s_iret d_X12_unread_13 rfl rfl ⟨_, rfl, hV⟩

theorem d_X12_put_0 : decode i_X12_put.2.1 0 = .ok (.iload_n 1, 1) := by decide +kernel
theorem d_X12_put_1 : decode i_X12_put.2.1 1 = .ok (.iconst 0, 1) := by decide +kernel
theorem d_X12_put_2 : decode i_X12_put.2.1 2 = .ok (.bipush 9, 2) := by decide +kernel
theorem d_X12_put_4 : decode i_X12_put.2.1 4 = .ok (.invokestatic 90, 3) := by decide +kernel
theorem d_X12_put_7 : decode i_X12_put.2.1 7 = .ok (.ifCond .ne 6, 3) := by decide +kernel
theorem d_X12_put_10 : decode i_X12_put.2.1 10 = .ok (.ldc 94, 2) := by decide +kernel
theorem d_X12_put_12 : decode i_X12_put.2.1 12 = .ok (.ireturn, 1) := by decide +kernel
theorem d_X12_put_13 : decode i_X12_put.2.1 13 = .ok (.aload_n 0, 1) := by decide +kernel
theorem d_X12_put_14 : decode i_X12_put.2.1 14 = .ok (.getfield 32, 3) := by decide +kernel
theorem d_X12_put_17 : decode i_X12_put.2.1 17 = .ok (.iconst 0, 1) := by decide +kernel
theorem d_X12_put_18 : decode i_X12_put.2.1 18 = .ok (.iaload, 1) := by decide +kernel
theorem d_X12_put_19 : decode i_X12_put.2.1 19 = .ok (.bipush 60, 2) := by decide +kernel
theorem d_X12_put_21 : decode i_X12_put.2.1 21 = .ok (.if_icmp .ne 6, 3) := by decide +kernel
theorem d_X12_put_24 : decode i_X12_put.2.1 24 = .ok (.ldc 98, 2) := by decide +kernel
theorem d_X12_put_26 : decode i_X12_put.2.1 26 = .ok (.ireturn, 1) := by decide +kernel
theorem d_X12_put_27 : decode i_X12_put.2.1 27 = .ok (.aload_n 0, 1) := by decide +kernel
theorem d_X12_put_28 : decode i_X12_put.2.1 28 = .ok (.invokevirtual 212, 3) := by decide +kernel
theorem d_X12_put_31 : decode i_X12_put.2.1 31 = .ok (.aload_n 0, 1) := by decide +kernel
theorem d_X12_put_32 : decode i_X12_put.2.1 32 = .ok (.getfield 32, 3) := by decide +kernel
theorem d_X12_put_35 : decode i_X12_put.2.1 35 = .ok (.iconst 3, 1) := by decide +kernel
theorem d_X12_put_36 : decode i_X12_put.2.1 36 = .ok (.aload_n 0, 1) := by decide +kernel
theorem d_X12_put_37 : decode i_X12_put.2.1 37 = .ok (.getfield 32, 3) := by decide +kernel
theorem d_X12_put_40 : decode i_X12_put.2.1 40 = .ok (.iconst 0, 1) := by decide +kernel
theorem d_X12_put_41 : decode i_X12_put.2.1 41 = .ok (.iaload, 1) := by decide +kernel
theorem d_X12_put_42 : decode i_X12_put.2.1 42 = .ok (.iadd, 1) := by decide +kernel
theorem d_X12_put_43 : decode i_X12_put.2.1 43 = .ok (.iload_n 1, 1) := by decide +kernel
theorem d_X12_put_44 : decode i_X12_put.2.1 44 = .ok (.iastore, 1) := by decide +kernel
theorem d_X12_put_45 : decode i_X12_put.2.1 45 = .ok (.aload_n 0, 1) := by decide +kernel
theorem d_X12_put_46 : decode i_X12_put.2.1 46 = .ok (.getfield 32, 3) := by decide +kernel
theorem d_X12_put_49 : decode i_X12_put.2.1 49 = .ok (.iconst 0, 1) := by decide +kernel
theorem d_X12_put_50 : decode i_X12_put.2.1 50 = .ok (.dup2, 1) := by decide +kernel
theorem d_X12_put_51 : decode i_X12_put.2.1 51 = .ok (.iaload, 1) := by decide +kernel
theorem d_X12_put_52 : decode i_X12_put.2.1 52 = .ok (.iconst 1, 1) := by decide +kernel
theorem d_X12_put_53 : decode i_X12_put.2.1 53 = .ok (.iadd, 1) := by decide +kernel
theorem d_X12_put_54 : decode i_X12_put.2.1 54 = .ok (.iastore, 1) := by decide +kernel
theorem d_X12_put_55 : decode i_X12_put.2.1 55 = .ok (.aload_n 0, 1) := by decide +kernel
theorem d_X12_put_56 : decode i_X12_put.2.1 56 = .ok (.getfield 32, 3) := by decide +kernel
theorem d_X12_put_59 : decode i_X12_put.2.1 59 = .ok (.iconst 0, 1) := by decide +kernel
theorem d_X12_put_60 : decode i_X12_put.2.1 60 = .ok (.iaload, 1) := by decide +kernel
theorem d_X12_put_61 : decode i_X12_put.2.1 61 = .ok (.ireturn, 1) := by decide +kernel
def V_X12_put (x0 : Nat) (x1 : Int) (h : Hp) (Q : Int → Hp → Prop) : Prop :=
  C_X12_is x1 0 9 h (fun r2 h1 => ((r2 ≠ 0 → (hK h1 x0 = 11 ∧ ((hK h1 (hR h1 x0 14) = 12 ∧ (0 : Int) ≤ 0 ∧ 0 < hL h1 (hR h1 x0 14)) ∧ ((hI h1 (hR h1 x0 14) 0 ≠ 60 → (hK h1 x0 = 11 ∧ C_X12_note x0  h1 (fun h3 => (hK h3 x0 = 11 ∧ (hK h3 x0 = 11 ∧ ((hK h3 (hR h3 x0 14) = 12 ∧ (0 : Int) ≤ 0 ∧ 0 < hL h3 (hR h3 x0 14)) ∧ (((-2147483648 : Int) ≤ 3 + (hI h3 (hR h3 x0 14) 0) ∧ 3 + (hI h3 (hR h3 x0 14) 0) ≤ (2147483647 : Int)) ∧ ((hK h3 (hR h3 x0 14) = 12 ∧ (0 : Int) ≤ 3 + (hI h3 (hR h3 x0 14) 0) ∧ 3 + (hI h3 (hR h3 x0 14) 0) < hL h3 (hR h3 x0 14)) ∧ ∀ h4 : Hp, h4 = wI h3 (hR h3 x0 14) (3 + (hI h3 (hR h3 x0 14) 0)) x1 → (hK h4 x0 = 11 ∧ ((hK h4 (hR h4 x0 14) = 12 ∧ (0 : Int) ≤ 0 ∧ 0 < hL h4 (hR h4 x0 14)) ∧ (((-2147483648 : Int) ≤ (hI h4 (hR h4 x0 14) 0) + 1 ∧ (hI h4 (hR h4 x0 14) 0) + 1 ≤ (2147483647 : Int)) ∧ ((hK h4 (hR h4 x0 14) = 12 ∧ (0 : Int) ≤ 0 ∧ 0 < hL h4 (hR h4 x0 14)) ∧ ∀ h5 : Hp, h5 = wI h4 (hR h4 x0 14) 0 ((hI h4 (hR h4 x0 14) 0) + 1) → (hK h5 x0 = 11 ∧ ((hK h5 (hR h5 x0 14) = 12 ∧ (0 : Int) ≤ 0 ∧ 0 < hL h5 (hR h5 x0 14)) ∧ (Q (hI h5 (hR h5 x0 14) 0) h5))))))))))))))) ∧ (hI h1 (hR h1 x0 14) 0 = 60 → (Q (-1000000004) h1)))))) ∧ (r2 = 0 → (Q (-1000000002) h1))))
theorem G_X12_put {x0 : Nat} {x1 : Int} (h : Hp) (Q : Int → Hp → Prop) (hV : V_X12_put x0 x1 h Q) : C_X12_put x0 x1 h Q := by
  unfold V_X12_put at hV
  show Go i_X12_put 0 [(0, .inr (.inr x0)), (1, .inl x1)] [] h (qI Q)
  refine s_iload_n d_X12_put_0 rfl (ma 1 rfl) ?_
  refine s_iconst d_X12_put_1 (okn rfl) ?_
  refine s_bipush d_X12_put_2 (by decide) (okn rfl) ?_
  refine v_RX12_90 rfl (Nat.le_of_ble_eq_true rfl) d_X12_put_4 (Nat.le_of_ble_eq_true rfl) hV (fun r2 h1 hV => ?_)
  refine s_if_ne (tgt := 13) d_X12_put_7 (by decide) (fun c => ?_) (fun c => ?_)
  · have hV := hV.1 c
    refine s_aload_n d_X12_put_13 rfl (ma 0 rfl) ?_
    obtain ⟨o, hV⟩ := hV
    refine f_RX12_32g rfl d_X12_put_14 o ?_
    refine s_iconst d_X12_put_17 (okn rfl) ?_
    obtain ⟨o, hV⟩ := hV
    refine s_iald d_X12_put_18 o.1 o.2.1 o.2.2 ?_
    refine s_bipush d_X12_put_19 (by decide) (okn rfl) ?_
    refine s_icmp_ne (tgt := 27) d_X12_put_21 (by decide) (fun c => ?_) (fun c => ?_)
    · have hV := hV.1 c
      refine s_aload_n d_X12_put_27 rfl (ma 0 rfl) ?_
      obtain ⟨o, hV⟩ := hV
      refine v_RX12_212 rfl (Nat.le_of_ble_eq_true rfl) d_X12_put_28 o (Nat.le_of_ble_eq_true rfl) hV (fun h3 hV => ?_)
      refine s_aload_n d_X12_put_31 rfl (ma 0 rfl) ?_
      obtain ⟨o, hV⟩ := hV
      refine f_RX12_32g rfl d_X12_put_32 o ?_
      refine s_iconst d_X12_put_35 (okn rfl) ?_
      refine s_aload_n d_X12_put_36 rfl (ma 0 rfl) ?_
      obtain ⟨o, hV⟩ := hV
      refine f_RX12_32g rfl d_X12_put_37 o ?_
      refine s_iconst d_X12_put_40 (okn rfl) ?_
      obtain ⟨o, hV⟩ := hV
      refine s_iald d_X12_put_41 o.1 o.2.1 o.2.2 ?_
      obtain ⟨o, hV⟩ := hV
      refine s_iadd d_X12_put_42 o ?_
      refine s_iload_n d_X12_put_43 rfl (ma 1 rfl) ?_
      obtain ⟨o, hV⟩ := hV
      refine s_iast d_X12_put_44 o.1 o.2.1 o.2.2 ?_
      refine s_nmH (fun h4 eh4 => ?_)
      have hV := hV h4 eh4
      refine s_aload_n d_X12_put_45 rfl (ma 0 rfl) ?_
      obtain ⟨o, hV⟩ := hV
      refine f_RX12_32g rfl d_X12_put_46 o ?_
      refine s_iconst d_X12_put_49 (okn rfl) ?_
      refine s_dup2 d_X12_put_50 rfl rfl ?_
      obtain ⟨o, hV⟩ := hV
      refine s_iald d_X12_put_51 o.1 o.2.1 o.2.2 ?_
      refine s_iconst d_X12_put_52 (okn rfl) ?_
      obtain ⟨o, hV⟩ := hV
      refine s_iadd d_X12_put_53 o ?_
      obtain ⟨o, hV⟩ := hV
      refine s_iast d_X12_put_54 o.1 o.2.1 o.2.2 ?_
      refine s_nmH (fun h5 eh5 => ?_)
      have hV := hV h5 eh5
      refine s_aload_n d_X12_put_55 rfl (ma 0 rfl) ?_
      obtain ⟨o, hV⟩ := hV
      refine f_RX12_32g rfl d_X12_put_56 o ?_
      refine s_iconst d_X12_put_59 (okn rfl) ?_
      obtain ⟨o, hV⟩ := hV
      refine s_iald d_X12_put_60 o.1 o.2.1 o.2.2 ?_
      exact s_iret d_X12_put_61 rfl rfl ⟨_, rfl, hV⟩
    · have hV := hV.2 c
      refine s_ldc (n := (-1000000004)) d_X12_put_24 k_RX12_98 (by decide) (okn rfl) ?_
      exact s_iret d_X12_put_26 rfl rfl ⟨_, rfl, hV⟩
  · have hV := hV.2 c
    refine s_ldc (n := (-1000000002)) d_X12_put_10 k_RX12_94 (by decide) (okn rfl) ?_
    exact s_iret d_X12_put_12 rfl rfl ⟨_, rfl, hV⟩
