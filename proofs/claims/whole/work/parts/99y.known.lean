/-! THE CLAIM, part 1: what is known at the law's entry -/
theorem arr_of {s : State} {A : Array Value} {t : FieldType} (h : (Cond.arrayClass t).before A s = true) : ∃ cA : ClassId, ArrOfT s cA t ∧ s.vm.findClass ("[" ++ t.toString) = some cA := by
  obtain ⟨c, k, comp, h1, h2, h3⟩ := Cond.arrayClass_spec h
  exact ⟨c, fun n z => ⟨fun q h => (by cases h), k, h2, comp, h3⟩, h1⟩
theorem arr_over {s : State} {A : Array Value} {C : String} (h : (Cond.arrayOver (.object C)).before A s = true) : ∃ cA : ClassId, ArrOfT s cA (.object C) ∧ va_RA s cA (.object C) := by
  obtain ⟨comp, c, k, h1, h2, h3, h4, h5⟩ := Cond.arrayOver_spec h
  exact ⟨c, fun n z => ⟨fun q h => (by cases h), k, h3, comp, h4⟩, k, comp, h3, h4, h1, h5⟩
theorem nest_in : ∀ q ∈ nestW, Cond.methodLinkNest q.1 q.2.1 q.2.2 RX11 ∈ lw_tbl := by decide +kernel
theorem kn_of {s : State} {A : Array Value} (hts : ∀ w ∈ lw_tbl, w.before A s = true) : ∃ (D : va_G) (cA : Nat → ClassId), Kn D cA s := by
  have hg : ∀ w ∈ gtbl, w.before A s = true := fun w hw => hts w (List.mem_filter.mp hw).1
  have hC : ∀ ci : Nat, ∃ (cC : ClassId) (iS : Nat → Nat), ∀ r : vw_C, vwCl[ci]? = some r → u_Kn s r.1 r.2.1 r.2.2 cC iS := by
    intro ci
    cases hc : vwCl[ci]? with
    | none => exact ⟨0, fun _ => 0, fun r hr => by cases hr⟩
    | some r0 =>
      obtain ⟨o1, -, -, o4, -⟩ := cls_ok ci r0 hc
      obtain ⟨cC, iS, hk⟩ := u_known (n := r0.2.2) hg o1 (hg _ o4)
      exact ⟨cC, iS, fun r hr => by cases hr; exact hk⟩
  obtain ⟨dC, hd⟩ := Classical.skolem.mp hC
  obtain ⟨dI, hD⟩ := Classical.skolem.mp hd
  obtain ⟨c1, a1, b1⟩ := arr_of (hts (.arrayClass .int) (by decide +kernel))
  obtain ⟨c2, a2, b2⟩ := arr_of (hts (.arrayClass .byte) (by decide +kernel))
  obtain ⟨c3, a3, b3⟩ := arr_of (hts (.arrayClass .char) (by decide +kernel))
  obtain ⟨c4, a4, b4⟩ := arr_of (hts (.arrayClass .boolean) (by decide +kernel))
  have w5 := hts (.arrayOver (.object RX2)) (by decide +kernel)
  have w6 := hts (.arrayOver (.object RX8)) (by decide +kernel)
  obtain ⟨c5, a5, b5⟩ := arr_over w5
  obtain ⟨c6, a6, b6⟩ := arr_over w6
  refine ⟨(dC, dI), fun k => if k = 12 then c1 else if k = 13 then c2 else if k = 14 then c3 else if k = 15 then c4 else if k = 16 then c5 else c6, ⟨fun ci r hr => hD ci r hr, fun k q hk => ?_⟩, va_AO.of (A := A) w5, va_AO.of (A := A) w6, fun q hq => va_Nw.of rfl (hts _ (nest_in q hq))⟩
  match k, hk with
  | 0, hk => cases hk; exact ⟨a1, b1⟩
  | 1, hk => cases hk; exact ⟨a2, b2⟩
  | 2, hk => cases hk; exact ⟨a3, b3⟩
  | 3, hk => cases hk; exact ⟨a4, b4⟩
  | 4, hk => cases hk; exact ⟨a5, b5⟩
  | 5, hk => cases hk; exact ⟨a6, b6⟩
  | k + 6, hk => simp [tysOf] at hk
/-- the memory at the law's entry -/
def hp0 (L : Nat) (xs : Nat → Int32) : Hp := (fun a k => if a = 1 then (xs k.toNat).toInt else 0, fun _ _ => 0, fun a => if a = 1 then 18 else 99, fun a => if a = 1 then L else 0, 2, 0)
theorem hp0_ok {L : Nat} {xs : Nat → Int32} (hL : L ≤ 2048) : okH (hp0 L xs) := by
  refine ⟨Nat.le_refl _, fun a ha => ?_, rfl, rfl, fun a k => ?_, fun a => ?_, fun a k ha => ?_⟩
  · have ha : 2 ≤ a := ha
    show (if a = 1 then 18 else 99) = 99
    rw [if_neg (by omega)]
  · show -2147483648 ≤ (if a = 1 then (xs k.toNat).toInt else 0) ∧ (if a = 1 then (xs k.toNat).toInt else 0) ≤ 2147483647
    split
    · exact i32_range _
    · omega
  · show 0 ≤ (if a = 1 then (L : Int) else 0) ∧ (if a = 1 then (L : Int) else 0) ≤ 2147483647
    split <;> omega
  · have ha : (if a = 1 then 18 else 99) = 13 := ha
    split at ha <;> omega
theorem law_at {L : Nat} {xs : Nat → Int32} (hL : L ≤ 2048) : C_L_law (hp0 L xs) (fun v h' => v = 1 ∧ hN h' ≤ 100000 ∧ hS h' ≤ 300000) := by
  apply G_L_law
  refine law_ok (sc := fun k => (xs k.toNat).toInt) (n := L) (I := fun a k => if a = 1 then (xs k.toNat).toInt else 0) (r := (fun _ _ => 0, fun a => if a = 1 then 18 else 99, fun a => if a = 1 then (L : Int) else 0, 2, 0)) ⟨by omega, by omega⟩ (fun k => i32_range _) (fun k => if_pos rfl) rfl rfl (show (if (1 : Nat) = 1 then (L : Int) else 0) = L from if_pos rfl) (fun S' I' r' l => ⟨rfl, l.2.2.1.room⟩)
