/-! PURE, part 1: the memory as (numbers, the rest) -/
abbrev Im : Type := Nat → Int → Int
abbrev Rs : Type := (Nat → Int → Nat) × (Nat → Nat) × (Nat → Int) × Nat × Nat
def rR (r : Rs) (a : Nat) (k : Int) : Nat := r.1 a k
def rK (r : Rs) (a : Nat) : Nat := r.2.1 a
def rL (r : Rs) (a : Nat) : Int := r.2.2.1 a
def rN (r : Rs) : Nat := r.2.2.2.1
def rS (r : Rs) : Nat := r.2.2.2.2
def upI (I : Im) (a : Nat) (k v : Int) : Im := fun b j => if b = a ∧ j = k then v else I b j
def cpy (I : Im) (a : Nat) (i : Int) (b : Nat) (j n : Int) : Im := fun c k => if c = b ∧ j ≤ k ∧ k < j + n then I a (i + (k - j)) else I c k
def upR (r : Rs) (a : Nat) (k : Int) (v : Nat) : Rs := (fun b j => if b = a ∧ j = k then v else rR r b j, r.2)
theorem hI_p (I : Im) (r : Rs) (a : Nat) (k : Int) : hI (I, r) a k = I a k := rfl
theorem hR_p (I : Im) (r : Rs) (a : Nat) (k : Int) : hR (I, r) a k = rR r a k := rfl
theorem hK_p (I : Im) (r : Rs) (a : Nat) : hK (I, r) a = rK r a := rfl
theorem hL_p (I : Im) (r : Rs) (a : Nat) : hL (I, r) a = rL r a := rfl
theorem hN_p (I : Im) (r : Rs) : hN (I, r) = rN r := rfl
theorem wI_p (I : Im) (r : Rs) (a : Nat) (k v : Int) : wI (I, r) a k v = (upI I a k v, r) := rfl
theorem wR_p (I : Im) (r : Rs) (a : Nat) (k : Int) (v : Nat) : wR (I, r) a k v = (I, upR r a k v) := rfl
theorem cpI_p (I : Im) (r : Rs) (a : Nat) (i : Int) (b : Nat) (j n : Int) : cpI (I, r) a i b j n = (cpy I a i b j n, r) := rfl
theorem upI_at (I : Im) (a : Nat) (k v : Int) (b : Nat) (j : Int) : upI I a k v b j = if b = a ∧ j = k then v else I b j := rfl
theorem upI_self (I : Im) (a : Nat) (k v : Int) : upI I a k v a k = v := if_pos ⟨rfl, rfl⟩
theorem upI_ne {I : Im} {a : Nat} {k v : Int} {b : Nat} {j : Int} (h : ¬ (b = a ∧ j = k)) : upI I a k v b j = I b j := if_neg h
theorem cpy_at (I : Im) (a : Nat) (i : Int) (b : Nat) (j n : Int) (c : Nat) (k : Int) : cpy I a i b j n c k = if c = b ∧ j ≤ k ∧ k < j + n then I a (i + (k - j)) else I c k := rfl
/-- a list stands in a row of numbers from a place on -/
def Seg (f : Int → Int) (off : Int) (xs : List Int) : Prop := ∀ (k : Nat) (v : Int), xs[k]? = some v → f (off + k) = v
theorem Seg.nil (f : Int → Int) (off : Int) : Seg f off [] := fun k v h => by simp at h
theorem Seg.get {f : Int → Int} {off : Int} {xs : List Int} (h : Seg f off xs) {k : Nat} (hk : k < xs.length) : f (off + k) = xs[k] := h k _ (List.getElem?_eq_getElem hk)
theorem Seg.getD {f : Int → Int} {off : Int} {xs : List Int} (h : Seg f off xs) {k : Nat} (hk : k < xs.length) (d : Int) : f (off + k) = xs.getD k d := by
  rw [h.get hk, List.getD_eq_getElem?_getD, List.getElem?_eq_getElem hk]; rfl
theorem Seg.at {f : Int → Int} {off i : Int} {xs : List Int} (h : Seg f off xs) (h0 : 0 ≤ i) (h1 : i < xs.length) (d : Int) : f (off + i) = xs.getD i.toNat d := by
  have e := h.getD (k := i.toNat) (by omega) d
  rw [Int.toNat_of_nonneg h0] at e
  exact e
theorem Seg.congr {f g : Int → Int} {off : Int} {xs : List Int} (h : Seg f off xs) (e : ∀ k : Int, off ≤ k → k < off + xs.length → g k = f k) : Seg g off xs := by
  intro k v hv
  have hk : k < xs.length := (List.getElem?_eq_some_iff.mp hv).1
  rw [e (off + k) (by omega) (by omega)]
  exact h k v hv
theorem Seg.shift {f g : Int → Int} {off off' : Int} {xs : List Int} (h : Seg f off xs) (e : ∀ k : Int, 0 ≤ k → k < xs.length → g (off' + k) = f (off + k)) : Seg g off' xs := by
  intro k v hv
  have hk : k < xs.length := (List.getElem?_eq_some_iff.mp hv).1
  rw [e k (by omega) (by omega)]
  exact h k v hv
theorem Seg.snoc {f g : Int → Int} {off v : Int} {xs : List Int} (h : Seg f off xs) (e : ∀ k : Int, off ≤ k → k < off + xs.length → g k = f k) (hv : g (off + xs.length) = v) : Seg g off (xs ++ [v]) := by
  intro k w hw
  by_cases hk : k < xs.length
  · rw [List.getElem?_append_left hk] at hw
    exact (h.congr e) k w hw
  · rw [List.getElem?_append_right (by omega)] at hw
    have hz : k - xs.length < 1 := (List.getElem?_eq_some_iff.mp hw).1
    have hk2 : k = xs.length := by omega
    subst hk2
    simp at hw
    rw [hv, hw]
theorem Seg.pre {f : Int → Int} {off : Int} {xs ys : List Int} (h : Seg f off (xs ++ ys)) : Seg f off xs := by
  intro k v hv
  have hk : k < xs.length := (List.getElem?_eq_some_iff.mp hv).1
  exact h k v (by rw [List.getElem?_append_left hk]; exact hv)
theorem Seg.eq_of {f : Int → Int} {off : Int} {xs ys : List Int} (h : Seg f off xs) (h' : Seg f off ys) (hl : xs.length = ys.length) : xs = ys := by
  apply List.ext_getElem hl
  intro k h1 h2
  rw [← h.get h1, ← h'.get h2]
theorem Seg.take {f : Int → Int} {off : Int} {xs : List Int} (h : Seg f off xs) (n : Nat) : Seg f off (xs.take n) := by
  intro k v hv
  rw [List.getElem?_take] at hv
  split at hv
  · exact h k v hv
  · cases hv
/-- a list out of a row of numbers -/
def lst (f : Int → Int) (off : Int) : Nat → List Int
  | 0 => []
  | n + 1 => lst f off n ++ [f (off + n)]
theorem lst_len (f : Int → Int) (off : Int) (n : Nat) : (lst f off n).length = n := by
  induction n with
  | zero => rfl
  | succ n ih => simp [lst, ih]
theorem lst_seg (f : Int → Int) (off : Int) (n : Nat) : Seg f off (lst f off n) := by
  induction n with
  | zero => exact Seg.nil f off
  | succ n ih => exact ih.snoc (fun k _ _ => rfl) (by rw [lst_len])
theorem Seg.lst_eq {f : Int → Int} {off : Int} {xs : List Int} (h : Seg f off xs) : lst f off xs.length = xs := (lst_seg f off xs.length).eq_of h (lst_len _ _ _)
/-- only these numbers may have changed -/
def Ex (A : Nat → Int → Prop) (I I' : Im) : Prop := ∀ a k, ¬ A a k → I' a k = I a k
theorem Ex.refl {A : Nat → Int → Prop} (I : Im) : Ex A I I := fun _ _ _ => rfl
theorem Ex.trans {A B C : Nat → Int → Prop} {I J K : Im} (h1 : Ex A I J) (h2 : Ex B J K) (hA : ∀ a k, A a k → C a k) (hB : ∀ a k, B a k → C a k) : Ex C I K := fun a k hc => (h2 a k (fun z => hc (hB a k z))).trans (h1 a k (fun z => hc (hA a k z)))
theorem Ex.mono {A B : Nat → Int → Prop} {I J : Im} (h : Ex A I J) (hA : ∀ a k, A a k → B a k) : Ex B I J := fun a k hc => h a k (fun z => hc (hA a k z))
theorem Ex.up {A : Nat → Int → Prop} {I : Im} {a : Nat} {k v : Int} (h : A a k) : Ex A I (upI I a k v) := fun b j hc => upI_ne (fun z => hc (by rw [z.1, z.2]; exact h))
theorem Ex.cp {A : Nat → Int → Prop} {I : Im} {a : Nat} {i : Int} {b : Nat} {j n : Int} (h : ∀ k, j ≤ k → k < j + n → A b k) : Ex A I (cpy I a i b j n) := fun c k hc => if_neg (fun z => hc (by rw [z.1]; exact h k z.2.1 z.2.2))
