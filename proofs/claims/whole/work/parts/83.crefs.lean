/-! COMPONENT, part 13: what may change among the references -/
def Rx (r r' : Rs) : Prop := (∀ (a : Nat) (k : Int), a < 389 → ¬ ((a = 3 ∧ k = 6) ∨ (a = 230 ∧ (k = 0 ∨ k = 1)) ∨ ((a = 231 ∨ a = 233 ∨ a = 238) ∧ k = 0)) → rR r' a k = rR r a k) ∧ (∀ a : Nat, a < 389 → rK r' a = rK r a) ∧ (∀ a : Nat, a < 389 → rL r' a = rL r a)
theorem Rx.refl (r : Rs) : Rx r r := ⟨fun _ _ _ _ => rfl, fun _ _ => rfl, fun _ _ => rfl⟩
theorem Rx.trans {r r' r'' : Rs} (h1 : Rx r r') (h2 : Rx r' r'') : Rx r r'' := ⟨fun a k ha hk => (h2.1 a k ha hk).trans (h1.1 a k ha hk), fun a ha => (h2.2.1 a ha).trans (h1.2.1 a ha), fun a ha => (h2.2.2 a ha).trans (h1.2.2 a ha)⟩
theorem Fs.of {r r' : Rs} {a c : Nat} {n : Int} (h : Fs r a c n) (x : Rx r r') (ha : a < 389) (hc : c < 389) (hn : ¬ (a = 231 ∨ a = 233 ∨ a = 238)) (h3 : a ≠ 3 ∧ a ≠ 230) : Fs r' a c n := ⟨(x.2.1 a ha).trans h.1, (x.1 a 0 ha (by omega)).trans h.2.1, (x.2.1 c hc).trans h.2.2.1, (x.2.2 c hc).trans h.2.2.2⟩
theorem Ss.of {r r' : Rs} {a : Nat} (h : Ss r a) (x : Rx r r') (ha : 39 ≤ a ∧ a ≤ 205) : Ss r' a := by
  obtain ⟨s1, s2, s3, ⟨s4, s5, s6⟩, s7, s8, s9⟩ := h
  exact ⟨(x.2.1 a (by omega)).trans s1, (x.1 a 0 (by omega) (by omega)).trans s2, s3.of x (by omega) (by omega) (by omega) (by omega), ⟨(x.1 a 1 (by omega) (by omega)).trans s4, (x.2.1 _ (by omega)).trans s5, (x.2.2 _ (by omega)).trans s6⟩, (x.1 a 2 (by omega) (by omega)).trans s7, (x.2.1 _ (by omega)).trans s8, (x.2.2 _ (by omega)).trans s9⟩
theorem sWL.of {r r' : Rs} {a : Nat} (h : sWL r a) (x : Rx r r') (ha : 7 ≤ a ∧ a ≤ 23) : sWL r' a := by
  obtain ⟨s1, ⟨s2, s3, s4⟩, ⟨s5, s6, s7⟩, ⟨s8, s9, s10⟩, s11⟩ := h
  exact ⟨(x.2.1 _ (by omega)).trans s1, ⟨(x.1 _ _ (by omega) (by omega)).trans s2, (x.2.1 _ (by omega)).trans s3, (x.2.2 _ (by omega)).trans s4⟩, ⟨(x.1 _ _ (by omega) (by omega)).trans s5, (x.2.1 _ (by omega)).trans s6, (x.2.2 _ (by omega)).trans s7⟩, ⟨(x.1 _ _ (by omega) (by omega)).trans s8, (x.2.1 _ (by omega)).trans s9, (x.2.2 _ (by omega)).trans s10⟩, fun w hw => ⟨(x.1 _ _ (by omega) (by omega)).trans (s11 w hw).1, (s11 w hw).2.of x (by omega) (by omega) (by omega) (by omega)⟩⟩
theorem Cs.of {r r' : Rs} (h : Cs r) (x : Rx r r') : Cs r' := by
  obtain ⟨h1, h2, h3, h4, h5, h6, h7, h8, h9, h10, h11, h12⟩ := h
  have xR := x.1
  have xK := x.2.1
  have xL := x.2.2
  refine ⟨?_, ?_, h3.of x (by omega), h4.of x (by omega), h5.of x (by omega), ?_, ?_, ?_, ?_, ?_, ?_, h12.of x (by omega) (by omega) (by omega) (by omega)⟩
  · unfold sRa at *
    simp (discharger := omega) only [xR, xK]
    exact h1
  · obtain ⟨a1, ⟨a2, a3, a4⟩, a5, a6, a7⟩ := h2
    exact ⟨(xK _ (by omega)).trans a1, ⟨(xR _ _ (by omega) (by omega)).trans a2, (xK _ (by omega)).trans a3, (xL _ (by omega)).trans a4⟩, (xR _ _ (by omega) (by omega)).trans a5, (xR _ _ (by omega) (by omega)).trans a6, a7.of x (by omega) (by omega) (by omega) (by omega)⟩
  · obtain ⟨a1, ⟨a2, a3, a4⟩, a5⟩ := h6
    exact ⟨(xK _ (by omega)).trans a1, ⟨(xR _ _ (by omega) (by omega)).trans a2, (xK _ (by omega)).trans a3, (xL _ (by omega)).trans a4⟩, fun i hi => ⟨(xR _ _ (by omega) (by omega)).trans (a5 i hi).1, (a5 i hi).2.of x (by omega)⟩⟩
  · obtain ⟨a1, ⟨a2, a3, a4⟩, ⟨a5, a6, a7⟩, ⟨a8, a9, a10⟩, a11⟩ := h7
    exact ⟨(xK _ (by omega)).trans a1, ⟨(xR _ _ (by omega) (by omega)).trans a2, (xK _ (by omega)).trans a3, (xL _ (by omega)).trans a4⟩, ⟨(xR _ _ (by omega) (by omega)).trans a5, (xK _ (by omega)).trans a6, (xL _ (by omega)).trans a7⟩, ⟨(xR _ _ (by omega) (by omega)).trans a8, (xK _ (by omega)).trans a9, (xL _ (by omega)).trans a10⟩, fun i hi => ⟨(xR _ _ (by omega) (by omega)).trans (a11 i hi).1, (a11 i hi).2.of x (by omega)⟩⟩
  · obtain ⟨a1, ⟨a2, a3, a4⟩, ⟨a5, a6, a7⟩, ⟨a8, a9, a10⟩, ⟨a11, a12, a13⟩, a14⟩ := h8
    exact ⟨(xK _ (by omega)).trans a1, ⟨(xR _ _ (by omega) (by omega)).trans a2, (xK _ (by omega)).trans a3, (xL _ (by omega)).trans a4⟩, ⟨(xR _ _ (by omega) (by omega)).trans a5, (xK _ (by omega)).trans a6, (xL _ (by omega)).trans a7⟩, ⟨(xR _ _ (by omega) (by omega)).trans a8, (xK _ (by omega)).trans a9, (xL _ (by omega)).trans a10⟩, ⟨(xR _ _ (by omega) (by omega)).trans a11, (xK _ (by omega)).trans a12, (xL _ (by omega)).trans a13⟩, fun i hi => ⟨(xR _ _ (by omega) (by omega)).trans (a14 i hi).1, (a14 i hi).2.of x (by omega) (by omega) (by omega) (by omega)⟩⟩
  · obtain ⟨a1, ⟨a2, a3, a4⟩, a5, a6, a7⟩ := h9
    exact ⟨(xK _ (by omega)).trans a1, ⟨(xR _ _ (by omega) (by omega)).trans a2, (xK _ (by omega)).trans a3, (xL _ (by omega)).trans a4⟩, (xR _ _ (by omega) (by omega)).trans a5, (xK _ (by omega)).trans a6, (xL _ (by omega)).trans a7⟩
  · obtain ⟨a1, ⟨a2, a3, a4⟩, a5⟩ := h10
    exact ⟨(xK _ (by omega)).trans a1, ⟨(xR _ _ (by omega) (by omega)).trans a2, (xK _ (by omega)).trans a3, (xL _ (by omega)).trans a4⟩, fun i hi => ⟨(xR _ _ (by omega) (by omega)).trans (a5 i hi).1, fun hne => ((a5 i hi).2 hne).of x (by omega) (by omega) (by omega) (by omega)⟩⟩
  · obtain ⟨a1, ⟨a2, a3, a4⟩, a5, a6, a7⟩ := h11
    exact ⟨(xK _ (by omega)).trans a1, ⟨(xR _ _ (by omega) (by omega)).trans a2, (xK _ (by omega)).trans a3, (xL _ (by omega)).trans a4⟩, (xR _ _ (by omega) (by omega)).trans a5, (xK _ (by omega)).trans a6, (xL _ (by omega)).trans a7⟩
theorem Mst.of {r r' : Rs} (h : Mst r) (x : Rx r r') : Mst r' := by
  have xR := x.1
  have xK := x.2.1
  have xL := x.2.2
  unfold Mst at *
  simp (discharger := omega) only [xR, xK, xL]
  exact h
/-- the references but for the clause that is being read -/
theorem Rx.opn (r : Rs) (v : Nat) : Rx r (upR r 3 6 v) := ⟨fun a k _ hk => if_neg (fun z => hk (Or.inl z)), fun _ _ => rfl, fun _ _ => rfl⟩
theorem upR_at (r : Rs) (a : Nat) (k : Int) (v b : Nat) (j : Int) : rR (upR r a k v) b j = if b = a ∧ j = k then v else rR r b j := rfl
theorem upR_self (r : Rs) (a : Nat) (k : Int) (v : Nat) : rR (upR r a k v) a k = v := if_pos ⟨rfl, rfl⟩
theorem upR_K (r : Rs) (a : Nat) (k : Int) (v : Nat) : rK (upR r a k v) = rK r := rfl
theorem upR_L (r : Rs) (a : Nat) (k : Int) (v : Nat) : rL (upR r a k v) = rL r := rfl
theorem upR_N (r : Rs) (a : Nat) (k : Int) (v : Nat) : rN (upR r a k v) = rN r := rfl
theorem upR_S (r : Rs) (a : Nat) (k : Int) (v : Nat) : rS (upR r a k v) = rS r := rfl
/-- what a trial may use: its two rows, and the second round -/
def phi (L : Int) : Int := if L < 15360 then 2 * L else 46080
def psi (L : Int) : Int := if L < 120 then 0 else 240
def tC (r : Rs) (c : Nat) : Prop := c = 232 ∨ c = 234 ∨ c = 239 ∨ (389 ≤ c ∧ c < rN r)
def Tr (r : Rs) (p o cp co c3 : Nat) (Lp Lo L3 : Int) : Prop := ((p = 231 ∧ o = 233) ∨ (p = 233 ∧ o = 231)) ∧ (rR r 230 0 = p ∧ rR r 230 1 = o) ∧ Fs r p cp Lp ∧ Fs r o co Lo ∧ Fs r 238 c3 L3 ∧ (tC r cp ∧ tC r co ∧ tC r c3) ∧ (cp ≠ co ∧ cp ≠ c3 ∧ co ≠ c3) ∧ (120 ≤ Lp ∧ Lp ≤ 15360) ∧ (120 ≤ Lo ∧ Lo ≤ 15360) ∧ (60 ≤ L3 ∧ L3 ≤ 240) ∧ 389 ≤ rN r ∧ (rN r : Int) ≤ 389 + phi Lp + phi Lo + psi L3 ∧ (rS r : Int) ≤ 100000 + phi Lp + phi Lo + psi L3
def Dyn (r : Rs) : Prop := ∃ (p o cp co c3 : Nat) (Lp Lo L3 : Int), Tr r p o cp co c3 Lp Lo L3
theorem Tr.opn {r : Rs} {p o cp co c3 : Nat} {Lp Lo L3 : Int} (h : Tr r p o cp co c3 Lp Lo L3) (v : Nat) : Tr (upR r 3 6 v) p o cp co c3 Lp Lo L3 := by
  obtain ⟨h1, ⟨h2, h3⟩, h4, h5, h6, h7⟩ := h
  exact ⟨h1, ⟨by rw [upR_at, if_neg (by omega)]; exact h2, by rw [upR_at, if_neg (by omega)]; exact h3⟩, ⟨h4.1, by rw [upR_at, if_neg (by omega)]; exact h4.2.1, h4.2.2⟩, ⟨h5.1, by rw [upR_at, if_neg (by omega)]; exact h5.2.1, h5.2.2⟩, ⟨h6.1, by rw [upR_at, if_neg (by omega)]; exact h6.2.1, h6.2.2⟩, h7⟩
theorem Dyn.opn {r : Rs} (h : Dyn r) (v : Nat) : Dyn (upR r 3 6 v) := by
  obtain ⟨p, o, cp, co, c3, Lp, Lo, L3, h⟩ := h
  exact ⟨p, o, cp, co, c3, Lp, Lo, L3, h.opn v⟩
