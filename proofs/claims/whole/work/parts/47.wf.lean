/-! THE STATE stays well formed -/
theorem push_ok {S : St} (w : WF S) : okPa (push S) := by
  obtain ⟨b1, b2⟩ := w.2.2.2.2.2.1
  refine ⟨by unfold push; rw [List.length_take]; omega, fun n hn => ?_⟩
  rcases List.mem_cons.mp (List.mem_of_mem_take hn) with rfl | hn
  · exact w.2.2.2.2.1
  · exact b2 n hn
theorem uNP_wf {S : St} {n : NS} {p : List NS} (w : WF S) (hn : NSok n) (hp : okPa p) : WF (uNP S n p) := ⟨w.1, w.2.1, w.2.2.1, w.2.2.2.1, hn, hp, w.2.2.2.2.2.2⟩
theorem uSd_wf {S : St} {s : Int} (w : WF S) (hs : okSd s) : WF (uSd S s) := ⟨w.1, w.2.1, w.2.2.1, w.2.2.2.1, w.2.2.2.2.1, w.2.2.2.2.2.1, w.2.2.2.2.2.2.1, hs, w.2.2.2.2.2.2.2.2⟩
theorem deed_wf {S : St} {row : List Int} (w : WF S) (h1 : row.length ≤ 60) (h2 : figs row) : WF (deed S row) := uNP_wf w ⟨h1, h2, w.2.2.2.2.1.2.2⟩ (push_ok w)
theorem readNS_ok {n : NS} {kind : Int} (h : NSok n) (hk : 0 ≤ kind ∧ kind ≤ 5) (hl : (sayL kind n.1).length ≤ 60) (hr : n.2.1 ≤ 90019) : NSok (readNS n kind) := by
  obtain ⟨h1, h2, h3, h4, h5⟩ := h
  refine ⟨hl, sayL_fig kind h2, ?_, ?_, fun q hq => ?_⟩
  · show 0 ≤ n.2.1 + 1 ∧ n.2.1 + 1 ≤ 90020
    omega
  · show (((kind, (n.1.length : Int)) :: n.2.2).take 20).length ≤ 20
    rw [List.length_take]; omega
  · have hq : q ∈ ((kind, (n.1.length : Int)) :: n.2.2).take 20 := hq
    rcases List.mem_cons.mp (List.mem_of_mem_take hq) with rfl | hq
    · exact ⟨hk, by show 0 ≤ (n.1.length : Int); omega, by show (n.1.length : Int) ≤ 60; omega⟩
    · exact h5 q hq
theorem figs_take {xs : List Int} (h : figs xs) (n : Nat) : figs (xs.take n) := fun v hv => h v (List.mem_of_mem_take hv)
theorem dr1_wf {S : St} (w : WF S) (hr : (sNw S).2.1 ≤ 90019) : WF (dr1 S) ∧ (sNw (dr1 S)).2.1 ≤ (sNw S).2.1 + 1 := by
  have okn : NSok (sNw S) := w.2.2.2.2.1
  obtain ⟨n1, n2, n3, -⟩ := okn
  have o1 := sdN_ok (sSd S)
  have o2 := sdN_ok (sdN (sSd S))
  have q1 := o1.1
  have q2 := o2.1
  have base : WF (uSd (uNP S (sNw S) (push S)) (sdN (sSd S))) := uSd_wf (uNP_wf w w.2.2.2.2.1 (push_ok w)) o1
  have le0 : (sNw S).2.1 ≤ (sNw S).2.1 + 1 := by omega
  unfold dr1
  generalize hW : sdN (sSd S) / 65536 % 8 = W
  have hW0 : 0 ≤ W ∧ W < 8 := by omega
  dsimp only
  split
  · split
    · exact ⟨uSd_wf (uNP_wf w (readNS_ok w.2.2.2.2.1 (by omega) (by omega) hr) (push_ok w)) o1, Int.le_refl _⟩
    · exact ⟨base, le0⟩
  · split
    · split
      · refine ⟨uSd_wf (deed_wf w (by simp; omega) (n2.app (figs.one (Int.emod_nonneg _ (by omega)) ?_))) o2, le0⟩
        have : sdN (sdN (sSd S)) / 65536 % 10 < 10 := Int.emod_lt_of_pos _ (by omega)
        omega
      · exact ⟨base, le0⟩
    · refine ⟨uSd_wf (deed_wf w (by rw [List.length_take]; omega) (figs_take n2 _)) o2, le0⟩
theorem drN_wf {S : St} (w : WF S) (hr : (sNw S).2.1 ≤ 89999) : ∀ t : Nat, t ≤ 20 → WF (drN S t) ∧ (sNw (drN S t)).2.1 ≤ (sNw S).2.1 + t
  | 0, _ => ⟨w, by show (sNw S).2.1 ≤ _; omega⟩
  | t + 1, ht => by
    obtain ⟨h1, h2⟩ := drN_wf w hr t (by omega)
    obtain ⟨h3, h4⟩ := dr1_wf h1 (by omega)
    refine ⟨h3, ?_⟩
    show (sNw (dr1 (drN S t))).2.1 ≤ _
    omega
theorem m_drift {S : St} {I : Im} {r : Rs} {n : Int} {Q : Int → Hp → Prop} (m : Mst r) (hR : Rm S I) (w : WF S) (k : ∀ I', Rm (oDrift S n).2 I' → Ex aM I I' → Q (oDrift S n).1 (I', r)) : C_X12_drift 363 n (I, r) Q := by
  have m' := m
  unfold Mst at m'
  have a1 : I 370 1 = (sNw S).2.1 := hR.2.2.2.2.1.2.1
  apply G_X12_drift
  unfold V_X12_drift
  unfold oDrift at k
  refine m_is (fun c => ⟨fun _ => ?_, fun z => absurd z (by decide)⟩) (fun c => ⟨fun z => absurd rfl z, fun _ => ?_⟩)
  · rw [if_pos c] at k
    simp only [hK_p, hL_p, hI_p, hR_p, wI_p, cpI_p, hN_p, forall_eq, true_and, and_true, ne_eq, not_true_eq_false, not_false_eq_true, true_implies, false_implies, imp_false, implies_true, if_true, if_false, reduceCtorEq, m', a1]
    refine ⟨⟨by omega, by omega⟩, fun c2 => ?_, fun c2 => ?_⟩
    · rw [if_neg (by omega)] at k
      refine Lp_X12_drift_29_ind (fun x h => ∃ (t : Nat) (J : Im), x = t ∧ h = (J, r) ∧ (t : Int) ≤ n ∧ Rm (drN S t) J ∧ Ex aM I J) (fun x _ => 20 - x.toNat) ?_ _ _ ⟨0, I, rfl, rfl, by omega, hR, Ex.refl I⟩
      intro P x h hI ih
      obtain ⟨t, J, rfl, rfl, t1, t2, t3⟩ := hI
      obtain ⟨wt, wr⟩ := drN_wf w (by omega) t (by omega)
      unfold BLp_X12_drift_29
      refine ⟨fun c3 => ?_, fun c3 => ⟨m.1, m_drifts m t2 wt (fun K hK xK => ⟨⟨by omega, by omega⟩, ih _ _ ⟨t + 1, K, by omega, rfl, by omega, hK, t3.trans xK (fun _ _ z => z) (fun _ _ z => z)⟩ (by omega)⟩)⟩⟩
      have et : t = n.toNat := by omega
      subst et
      have b0 : J 370 0 = (sNw (drN S n.toNat)).1.length := t2.2.2.2.2.1.1
      simp only [hK_p, hL_p, hI_p, hR_p, wI_p, cpI_p, hN_p, forall_eq, true_and, and_true, ne_eq, not_true_eq_false, not_false_eq_true, true_implies, false_implies, imp_false, implies_true, if_true, if_false, reduceCtorEq, m', b0]
      exact ⟨⟨by omega, by omega⟩, k J t2 t3⟩
    · rw [if_pos (by omega)] at k
      exact k I hR (Ex.refl I)
  · rw [if_neg c] at k
    exact k I hR (Ex.refl I)
theorem wf_feed {S : St} {l : Int} (w : WF S) : WF (oFeed S l).2 := by
  unfold oFeed
  split
  · split
    · exact w
    · rename_i c1 c2
      obtain ⟨⟨h1, h2⟩, h3⟩ := w
      refine ⟨⟨?_, fun v hv => ?_⟩, h3⟩
      · show (sTx S ++ [l]).length ≤ 240
        simp; omega
      · have hv : v ∈ sTx S ++ [l] := hv
        rcases List.mem_append.mp hv with z | z
        · exact h2 v z
        · rw [List.mem_singleton.mp z]; exact c1
  · exact w
theorem wf_read {S : St} {kind : Int} (w : WF S) : WF (oRead S kind).2 := by
  unfold oRead
  split
  · split
    · exact w
    · rename_i c1 c2
      exact uNP_wf w (readNS_ok w.2.2.2.2.1 c1 (by omega) (by omega)) (push_ok w)
  · exact w
theorem wf_unread {S : St} (w : WF S) : WF (oUnread S).2 := by
  cases hu : un 9 (-1) (sNw S).1 with
  | none => rw [oUnread_none hu]; exact w
  | some ys =>
    rw [oUnread_some hu]
    split
    · exact w
    · exact deed_wf w (by omega) (un_fig _ _ _ _ w.2.2.2.2.1.2.1 hu)
theorem wf_put {S : St} {f : Int} (w : WF S) : WF (oPut S f).2 := by
  unfold oPut
  have h := w.2.2.2.2.1
  split
  · split
    · exact w
    · rename_i c1 c2
      exact deed_wf w (by have := h.1; simp; omega) (h.2.1.app (figs.one c1.1 c1.2))
  · exact w
theorem wf_word {S : St} {x : Int} (w : WF S) : WF (oWord S x).2 := by
  unfold oWord
  have h := w.2.2.2.2.1
  split
  · split
    · exact w
    · rename_i c1 c2
      exact deed_wf w (by simp; omega) (h.2.1.app (wl_ok w.2.2.2.1 c1).2.2)
  · exact w
theorem wf_change {S : St} {p f : Int} (w : WF S) : WF (oChange S p f).2 := by
  unfold oChange
  have h := w.2.2.2.2.1
  split
  · split
    · rename_i c1 c2
      refine deed_wf w (by simp; exact h.1) (fun v hv => ?_)
      rcases List.mem_or_eq_of_mem_set hv with z | z
      · exact h.2.1 v z
      · rw [z]; exact c2
    · exact w
  · exact w
theorem wf_drop {S : St} {n : Int} (w : WF S) : WF (oDrop S n).2 := by
  unfold oDrop
  have h := w.2.2.2.2.1
  split
  · exact deed_wf w (by have := h.1; rw [List.length_take]; omega) (figs_take h.2.1 _)
  · exact w
theorem wf_turn {S : St} (w : WF S) : WF (oTurn S).2 := by
  have h := w.2.2.2.2.1
  exact deed_wf w (by simp; exact h.1) (fun v hv => h.2.1 v (List.mem_reverse.mp hv))
theorem wf_drift {S : St} {n : Int} (w : WF S) : WF (oDrift S n).2 := by
  unfold oDrift
  split
  · split
    · exact w
    · exact (drN_wf w (by omega) n.toNat (by omega)).1
  · exact w
theorem wf_undo {S : St} {n : Int} (w : WF S) : WF (oUndo S n).2 := by
  unfold oUndo
  obtain ⟨b1, b2⟩ := w.2.2.2.2.2.1
  split
  · split
    · exact w
    · rename_i c1 c2
      refine uNP_wf w (b2 _ ?_) ⟨by rw [List.length_drop]; omega, fun x hx => b2 x (List.mem_of_mem_drop hx)⟩
      rw [List.getD_eq_getElem?_getD, List.getElem?_eq_getElem (show n.toNat - 1 < (sPa S).length by omega)]
      exact List.getElem_mem _
  · exact w
theorem wf_seed {S : St} {v : Int} (w : WF S) (hv : v ≤ 2147483647) : WF (oSeed S v).2 := by
  unfold oSeed
  split
  · exact w
  · exact uSd_wf w ⟨by omega, hv⟩
theorem wf_keep {S : St} {i : Int} (w : WF S) : WF (oKeep S i).2 := by
  unfold oKeep
  split
  · refine ⟨w.1, w.2.1, w.2.2.1, w.2.2.2.1, w.2.2.2.2.1, ⟨by show (0 : Nat) ≤ 30; omega, fun n hn => by cases hn⟩, fun j q hq => ?_, w.2.2.2.2.2.2.2⟩
    have hq : (if j = i.toNat then some (sNw S, sSd S) else sIm S j) = some q := hq
    split at hq
    · cases hq
      exact ⟨w.2.2.2.2.1, w.2.2.2.2.2.2.2.1⟩
    · exact w.2.2.2.2.2.2.1 j q hq
  · exact w
theorem wf_goBack {S : St} {i : Int} (w : WF S) : WF (oGoBack S i).2 := by
  unfold oGoBack
  split
  · cases hq : sIm S i.toNat with
    | none => exact w
    | some q =>
      obtain ⟨h1, h2⟩ := w.2.2.2.2.2.2.1 _ q hq
      exact uSd_wf (uNP_wf w h1 ⟨by show (0 : Nat) ≤ 30; omega, fun n hn => by cases hn⟩) h2
  · exact w
theorem wf_hear {S : St} {x y b : Int} (w : WF S) (hb : b = 0 ∨ b = 1) : WF (oHear S x y b).2 := by
  unfold oHear
  split
  · split
    · exact w
    · rename_i c1 c2
      obtain ⟨h1, h2⟩ := w.2.2.2.2.2.2.2.2.1
      refine ⟨w.1, w.2.1, w.2.2.1, w.2.2.2.1, w.2.2.2.2.1, w.2.2.2.2.2.1, w.2.2.2.2.2.2.1, w.2.2.2.2.2.2.2.1, ⟨?_, fun q hq => ?_⟩, w.2.2.2.2.2.2.2.2.2⟩
      · show (sHd S ++ [(x, y, b)]).length ≤ 6
        simp; omega
      · have hq : q ∈ sHd S ++ [(x, y, b)] := hq
        rcases List.mem_append.mp hq with z | z
        · exact h2 q z
        · rw [List.mem_singleton.mp z]
          exact ⟨⟨c1.1.1, by show x < ((sWl S).length : Int); omega⟩, ⟨c1.2.1, by show y < ((sWl S).length : Int); omega⟩, hb⟩
  · exact w
theorem wf_write {S : St} {p f : Int} (w : WF S) : WF (oWrite S p f).2 := by
  unfold oWrite
  split
  · split
    · exact w
    · rename_i c1 c2
      obtain ⟨h1, h2⟩ := w.2.2.2.2.2.2.2.2.2
      refine ⟨w.1, w.2.1, w.2.2.1, w.2.2.2.1, w.2.2.2.2.1, w.2.2.2.2.2.1, w.2.2.2.2.2.2.1, w.2.2.2.2.2.2.2.1, w.2.2.2.2.2.2.2.2.1, ⟨?_, fun q hq => ?_⟩⟩
      · show (sBk S ++ [(p, f)]).length ≤ 20
        simp; omega
      · have hq : q ∈ sBk S ++ [(p, f)] := hq
        rcases List.mem_append.mp hq with z | z
        · exact h2 q z
        · rw [List.mem_singleton.mp z]
          exact ⟨c1.1, c1.2⟩
  · exact w
theorem wf_tear {S : St} (w : WF S) : WF (oTear S).2 := ⟨w.1, w.2.1, w.2.2.1, w.2.2.2.1, w.2.2.2.2.1, w.2.2.2.2.2.1, w.2.2.2.2.2.2.1, w.2.2.2.2.2.2.2.1, ⟨by show (0 : Nat) ≤ 6; omega, fun q hq => by cases hq⟩, ⟨by show (0 : Nat) ≤ 20; omega, fun q hq => by cases hq⟩⟩
