/-! ENGINE, part 1: a flat memory (numbers and references by object and place), what it says of the machine's heap, and the judgement Go -/
abbrev AV : Type := Int ⊕ (Int ⊕ Nat)
abbrev Hp : Type := (Nat → Int → Int) × (Nat → Int → Nat) × (Nat → Nat) × (Nat → Int) × Nat × Nat
def hI (h : Hp) (a : Nat) (k : Int) : Int := h.1 a k
def hR (h : Hp) (a : Nat) (k : Int) : Nat := h.2.1 a k
def hK (h : Hp) (a : Nat) : Nat := h.2.2.1 a
def hL (h : Hp) (a : Nat) : Int := h.2.2.2.1 a
def hN (h : Hp) : Nat := h.2.2.2.2.1
def hS (h : Hp) : Nat := h.2.2.2.2.2
def wI (h : Hp) (a : Nat) (k v : Int) : Hp := (fun b j => if b = a ∧ j = k then v else hI h b j, h.2)
def wR (h : Hp) (a : Nat) (k : Int) (v : Nat) : Hp := (h.1, fun b j => if b = a ∧ j = k then v else hR h b j, h.2.2)
def al (h : Hp) (kd : Nat) (n : Int) (sl : Nat) : Hp := (fun b j => if b = hN h then 0 else hI h b j, fun b j => if b = hN h then 0 else hR h b j, fun b => if b = hN h then kd else hK h b, fun b => if b = hN h then n else hL h b, hN h + 1, hS h + sl)
def cpI (h : Hp) (a : Nat) (i : Int) (b : Nat) (j n : Int) : Hp := (fun c k => if c = b ∧ j ≤ k ∧ k < j + n then hI h a (i + (k - j)) else hI h c k, h.2)
abbrev MI : Type := MethodName × ByteArray × Nat × Option FieldType × String × Nat
/-- addresses: 1 is the script, from 2 on what was made, one behind the other -/
def ga (base b k : Nat) : Nat := if k = 1 then b else base + k - 2
def rr (g : Nat → Nat) (k : Nat) : Value := if k = 0 then .null else .ref (g k)
def rv (g : Nat → Nat) : AV → Value
  | .inl z => .int (Int32.ofInt z)
  | .inr (.inl z) => .long (Int64.ofInt z)
  | .inr (.inr k) => rr g k
def okv : AV → Prop
  | .inl z => -2147483648 ≤ z ∧ z ≤ 2147483647
  | .inr (.inl z) => -9223372036854775808 ≤ z ∧ z ≤ 9223372036854775807
  | .inr (.inr _) => True
def tyOf (ci : Nat) : Nat → FieldType := match ci with
  | 0 => tyX0
  | 1 => tyX1
  | 2 => tyX2
  | 3 => tyX3
  | 4 => tyX4
  | 5 => tyX5
  | 6 => tyX6
  | 7 => tyX8
  | 8 => tyX9
  | 9 => tyX10
  | 10 => tyX11
  | _ => tyX12
def isRT : FieldType → Bool
  | .object _ => true
  | .array _ => true
  | _ => false
def isRf (ci j : Nat) : Bool := isRT (tyOf ci j)
def fv (g : Nat → Nat) (h : Hp) (k j : Nat) : Value := if isRf (hK h k) j = true then rr g (hR h k j) else .int (Int32.ofInt (hI h k j))
def cellR (D : va_G) (cA : Nat → ClassId) (g : Nat → Nat) (h : Hp) (k : Nat) (H : Heap) : Prop :=
  (∀ r : vw_C, vwCl[hK h k]? = some r → t_OB (g k) (D.1 (hK h k)) r.2.2 (D.2 (hK h k)) H (fv g h k)) ∧
  (12 ≤ hK h k → hK h k < 16 → H[g k]? = some (arrV (cA (hK h k)) (hL h k).toNat (fun j => .int (Int32.ofInt (hI h k j))))) ∧
  (16 ≤ hK h k → hK h k < 18 → H[g k]? = some (arrV (cA (hK h k)) (hL h k).toNat (fun j => rr g (hR h k j))))
def Rel (base b : Nat) (D : va_G) (cA : Nat → ClassId) (s : State) (h : Hp) (H : Heap) : Prop :=
  H.size + 2 = base + hN h ∧ (∀ k, 2 ≤ k → k < hN h → cellR D cA (ga base b) h k H) ∧ va_X b (hL h 1).toNat (fun j => Int32.ofInt (hI h 1 j)) s H
/-- what holds of every flat memory that is met -/
def okH (h : Hp) : Prop := 2 ≤ hN h ∧ (∀ a, hN h ≤ a → hK h a = 99) ∧ hK h 0 = 99 ∧ hK h 1 = 18 ∧ (∀ a k, -2147483648 ≤ hI h a k ∧ hI h a k ≤ 2147483647) ∧ (∀ a, 0 ≤ hL h a ∧ hL h a ≤ 2147483647) ∧ (∀ a k, hK h a = 13 → -128 ≤ hI h a k ∧ hI h a k ≤ 127)
def gtbl : List Cond := lw_tbl.filter goodWord
abbrev tysOf (cA : Nat → ClassId) : List (ClassId × FieldType) := [(cA 12, .int), (cA 13, .byte), (cA 14, .char), (cA 15, .boolean), (cA 16, .object RX2), (cA 17, .object RX8)]
def nestW : List (String × Nat × MethodName) := [(RX11, 9, yX1_init), (RX11, 25, yX8_init), (RX6, 17, yX8_init), (RX4, 25, yX8_init), (RX11, 53, yX0_init), (RX11, 67, yX5_init)]
def Kn (D : va_G) (cA : Nat → ClassId) (U : State) : Prop := va_K D vwCl (tysOf cA) U ∧ va_AO RX2 U ∧ va_AO RX8 U ∧ ∀ q ∈ nestW, va_Nw (.methodLinkNest q.1 q.2.1 q.2.2 RX11) U
def Cx (M : MI) (base b : Nat) (D : va_G) (cA : Nat → ClassId) (p : Program) (s : State) (m : MethodId) (args : Array Value) (meth : Method) (c : Code) : Prop :=
  p.tables.exec = Jvm.exec ∧ c.code = M.2.1 ∧ c.maxLocals = M.2.2.1 ∧ s.vm.findClass M.2.2.2.2.1 = some m.cls ∧ (∀ w ∈ gtbl, w.before args s = true) ∧ meth.sig.returnType = M.2.2.2.1 ∧ meth.locks = false ∧ (M.1.name = "<init>" → meth.name = "<init>") ∧ Kn D cA s ∧ b < base
def RetOk (M : MI) (pc : Nat) (r : Option AV) : Prop := match r with
  | none => M.2.2.2.1 = none ∧ decode M.2.1 pc = .ok (.return_, 1)
  | some (.inl z) => ∃ ty, M.2.2.2.1 = some ty ∧ narrow ty (.int (Int32.ofInt z)) = .int (Int32.ofInt z) ∧ decode M.2.1 pc = .ok (.ireturn, 1)
  | some (.inr (.inl _)) => False
  | some (.inr (.inr _)) => (∃ rt, M.2.2.2.1 = some rt ∧ ((∃ n, rt = .object n) ∨ ∃ t, rt = .array t)) ∧ decode M.2.1 pc = .ok (.areturn, 1)
def RoomOk (M : MI) (R : Room) (nc ns : Nat) : Prop := M.2.2.2.2.2 ≤ R.frames ∧ 36 * M.2.2.2.2.2 ≤ R.locals ∧ nc ≤ R.cells ∧ ns ≤ R.slots
def lvR (g : Nat → Nat) (lv : List (Nat × AV)) : List (Nat × Value) := lv.map (fun q => (q.1, rv g q.2))
def Fin_ (M : MI) (base b : Nat) (D : va_G) (cA : Nat → ClassId) (p : Program) (l : Launch) (e : Env) (R : Room) (s : State) (m : MethodId) (args : Array Value) (below : List Frame) (meth : Method) (c : Code) (r : Option AV) (h' : Hp) (N0 S0 : Nat) (Qf : State → Prop) : Prop :=
  ∀ (pc : Nat) (H : Heap) (locs : List Loc) (ls : Array Slot), RetOk M pc r → okH h' → Rel base b D cA s h' H → (∀ v, r = some v → okv v) → (∀ q ∈ locs, base ≤ q.base) → W p l e R s m args below meth c H locs (hN h' - N0) (hS h' - S0) Qf (F0 m pc ls (r.toList.map (rv (ga base b))))
def Sim (M : MI) (pc : Nat) (lv : List (Nat × AV)) (st : List AV) (h : Hp) (r : Option AV) (h' : Hp) : Prop :=
  ∀ (base b : Nat) (D : va_G) (cA : Nat → ClassId) (p : Program) (l : Launch) (e : Env) (R : Room) (s : State) (m : MethodId) (args : Array Value) (below : List Frame) (meth : Method) (c : Code) (H : Heap) (locs : List Loc) (N0 S0 : Nat) (ls : Array Slot) (Qf : State → Prop),
    Cx M base b D cA p s m args meth c → okH h → Rel base b D cA s h H → N0 ≤ hN h → S0 ≤ hS h → RoomOk M R (hN h' - N0) (hS h' - S0) → lv_has ls M.2.2.1 (lvR (ga base b) lv) → (∀ q ∈ lv, okv q.2) → (∀ v ∈ st, okv v) → (∀ q ∈ locs, base ≤ q.base) →
    Fin_ M base b D cA p l e R s m args below meth c r h' N0 S0 Qf → W p l e R s m args below meth c H locs (hN h - N0) (hS h - S0) Qf (F0 m pc ls (st.map (rv (ga base b))))
/-- from this place of method M, with these locals, this stack, this memory, it comes to its end with Q -/
def Go (M : MI) (pc : Nat) (lv : List (Nat × AV)) (st : List AV) (h : Hp) (Q : Option AV → Hp → Prop) : Prop :=
  ∃ (r : Option AV) (h' : Hp), Q r h' ∧ hN h ≤ hN h' ∧ hS h ≤ hS h' ∧ Sim M pc lv st h r h'
theorem Go.of {M : MI} {pc pc' : Nat} {lv lv' : List (Nat × AV)} {st st' : List AV} {h : Hp} {Q : Option AV → Hp → Prop} (k : Go M pc' lv' st' h Q) (f : ∀ r h', Sim M pc' lv' st' h r h' → Sim M pc lv st h r h') : Go M pc lv st h Q := by
  obtain ⟨r, h', q, a, b, s⟩ := k
  exact ⟨r, h', q, a, b, f r h' s⟩
theorem Go.mono {M : MI} {pc : Nat} {lv : List (Nat × AV)} {st : List AV} {h : Hp} {Q Q' : Option AV → Hp → Prop} (k : Go M pc lv st h Q) (f : ∀ r h', Q r h' → Q' r h') : Go M pc lv st h Q' := by
  obtain ⟨r, h', q, a, b, s⟩ := k
  exact ⟨r, h', f r h' q, a, b, s⟩
def qI (Q : Int → Hp → Prop) : Option AV → Hp → Prop := fun r h => ∃ z, r = some (.inl z) ∧ Q z h
def qR (Q : Nat → Hp → Prop) : Option AV → Hp → Prop := fun r h => ∃ z, r = some (.inr (.inr z)) ∧ Q z h
def qV (Q : Hp → Prop) : Option AV → Hp → Prop := fun r h => r = none ∧ Q h
-- locals
theorem lvR_mem {g : Nat → Nat} {lv : List (Nat × AV)} {i : Nat} {v : AV} (h : (i, v) ∈ lv) : (i, rv g v) ∈ lvR g lv := List.mem_map.mpr ⟨(i, v), h, rfl⟩
theorem lv_of {g : Nat → Nat} {lv : List (Nat × AV)} {ls : Array Slot} {n i : Nat} {v : AV} (hl : lv_has ls n (lvR g lv)) (h : (i, v) ∈ lv) : ls[i]? = some (.val (rv g v)) := hl.2.2 _ (lvR_mem h)
theorem s_ls {M : MI} {pc : Nat} {lv lv' : List (Nat × AV)} {st : List AV} {h : Hp} {Q : Option AV → Hp → Prop} (hs : ∀ q ∈ lv', q ∈ lv) (k : Go M pc lv' st h Q) : Go M pc lv st h Q := by
  refine Go.of k fun r h' S => ?_
  intro base b D cA p l e R s m args below meth c H locs N0 S0 ls Qf C oh rl hn hss hR hl ol os hlo hf
  refine S base b D cA p l e R s m args below meth c H locs N0 S0 ls Qf C oh rl hn hss hR ⟨hl.1, hl.2.1, fun q hq => ?_⟩ (fun q hq => ol q (hs q hq)) os hlo hf
  obtain ⟨x, hx, rfl⟩ := List.mem_map.mp hq
  exact hl.2.2 _ (lvR_mem (hs x hx))
-- numbers
theorem i32_toInt {z : Int} (h : -2147483648 ≤ z ∧ z ≤ 2147483647) : (Int32.ofInt z).toInt = z := by
  exact Int32.toInt_ofInt_of_le (by omega) (by omega)
theorem i64_toInt {z : Int} (h : -9223372036854775808 ≤ z ∧ z ≤ 9223372036854775807) : (Int64.ofInt z).toInt = z := by
  exact Int64.toInt_ofInt_of_le (by omega) (by omega)
theorem i32_of (x : Int32) : Int32.ofInt x.toInt = x := Int32.ofInt_toInt x
theorem i32_lt {x y : Int} (hx : okv (.inl x)) (hy : okv (.inl y)) : Int32.ofInt x < Int32.ofInt y ↔ x < y := by
  rw [Int32.lt_iff_toInt_lt, i32_toInt hx, i32_toInt hy]
theorem i32_le {x y : Int} (hx : okv (.inl x)) (hy : okv (.inl y)) : Int32.ofInt x ≤ Int32.ofInt y ↔ x ≤ y := by
  rw [Int32.le_iff_toInt_le, i32_toInt hx, i32_toInt hy]
theorem i32_eq {x y : Int} (hx : okv (.inl x)) (hy : okv (.inl y)) : Int32.ofInt x = Int32.ofInt y ↔ x = y := by
  constructor
  · intro h
    rw [← i32_toInt hx, ← i32_toInt hy, h]
  · intro h; rw [h]
theorem i32_range (x : Int32) : okv (.inl x.toInt) := by
  have h1 := Int32.le_toInt x
  have h2 := Int32.toInt_lt x
  exact ⟨by omega, by omega⟩
theorem i32_clamp {z : Int} (h0 : 0 ≤ z) (h : z ≤ 2147483647) : (Int32.ofInt z).toNatClampNeg = z.toNat := by
  show (Int32.ofInt z).toInt.toNat = z.toNat
  rw [i32_toInt ⟨by omega, h⟩]
