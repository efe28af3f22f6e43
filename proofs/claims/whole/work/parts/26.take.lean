/-! TAKING AN ITEM: the class -/
section TK
variable {ht : Nat} {I : Nat → Int32} {A : Nat → Nat → Int32} {J : Nat → Nat → Int64} {it : Nat → Option Nat} {t : List Nat}
theorem take_C (hT : txR 2 2 I A t) (dyn : fsH) : L_X5_takeItem_r ht I A J it dyn = (if (rd t).2.1 = t.length then (rd t).1.map (fun _ => dyn.length + (rd t).2.2.length + 41) else none) ∧ L_X5_takeItem_I ht I A J it dyn = upd (upd I 3 (nI (rd t).2.1)) 2 0 ∧ L_X5_takeItem_dyn ht I A J it dyn = dyn ++ (rd t).2.2.map (pcell dyn.length) ++ icL dyn.length (rd t).1 ∧ S_X5_takeItem ht I A J it dyn ∧ (rd t).2.1 ≤ t.length := by
  have hl := hT.2.1
  have hc := ch_lt (p := 0) hT.2.2.2
  obtain ⟨n1, ns1⟩ := next_C (ht := ht) (J := J) (it := it) (dyn := dyn) hT (p := 0) (by omega)
  have n1 : L_X5_next_r ht (upd I 3 0) A J it dyn = nI (ch t 0) := n1
  have ns1 : S_X5_next ht (upd I 3 0) A J it dyn := ns1
  have ks : S_X5_skip ht (upd I 3 0) A J it dyn 33 := ns1
  have fin : ∀ (p : Nat) (r : Option Nat), p ≤ t.length → (if (if (upd I 3 (nI p)) 3 = (upd I 3 (nI p)) 2 then (1 : Int32) else 0) = 0 then none else r) = (if p = t.length then r else none) := by
    intro p r hp
    rw [upd_s, upd_n _ _ (by decide), hT.1]
    simp (disch := omega) only [nI_eq]
    by_cases h : p = t.length
    · simp [h]
    · simp [h]
  unfold L_X5_takeItem_r L_X5_takeItem_I L_X5_takeItem_dyn S_X5_takeItem
  simp only [n1, isL_0 hc]
  by_cases hL : 97 ≤ ch t 0 ∧ ch t 0 ≤ 122
  · have hnn : ¬ ¬ (97 ≤ ch t 0 ∧ ch t 0 ≤ 122) := fun h => h hL
    obtain ⟨f1, f2, f3, f4, f5⟩ := field_C (ht := ht) (J := J) (it := it) hT dyn hL
    have f1 : L_X5_fieldItem_r ht (upd I 3 0) A J it dyn = _ := f1
    have f2 : L_X5_fieldItem_I ht (upd I 3 0) A J it dyn = _ := f2
    have f3 : L_X5_fieldItem_dyn ht (upd I 3 0) A J it dyn = _ := f3
    have f4 : S_X5_fieldItem ht (upd I 3 0) A J it dyn := f4
    simp only [if_neg hnn, f1, f2, f3, fin _ _ f5]
    exact ⟨trivial, trivial, trivial, ⟨ns1, fun h => absurd h hnn, fun _ => f4⟩, f5⟩
  · simp only [if_pos hL]
    by_cases h33 : ch t 0 = 33
    · have q := skip_l (ht := ht) (J := J) (it := it) hT dyn (p := 0) (by omega) 33 (by decide) h33
      have q1 : L_X5_skip_r ht (upd I 3 0) A J it dyn 33 = 1 := q.1
      have q2 : L_X5_skip_I ht (upd I 3 0) A J it dyn 33 = upd I 3 (nI 1) := q.2
      obtain ⟨f1, f2, f3, f4, f5⟩ := check_C (ht := ht) (J := J) (it := it) hT dyn h33
      simp only [q1, q2, show ¬ (1 : Int32) = 0 by decide, if_false, f1, f2, f3, fin _ _ f5]
      exact ⟨trivial, trivial, trivial, by simp [ns1, hL, ks, f4], f5⟩
    · have q := skip_n (ht := ht) (J := J) (it := it) hT dyn (p := 0) (by omega) 33 (by decide) h33
      have q1 : L_X5_skip_r ht (upd I 3 0) A J it dyn 33 = 0 := q.1
      have q2 : L_X5_skip_I ht (upd I 3 0) A J it dyn 33 = upd I 3 (nI 0) := q.2
      have ks4 := skip_s (ht := ht) (J := J) (it := it) hT dyn (p := 0) (by omega) 34
      simp only [q1, q2, if_true]
      by_cases h34 : ch t 0 = 34
      · have q := skip_l (ht := ht) (J := J) (it := it) hT dyn (p := 0) (by omega) 34 (by decide) h34
        have q3 : L_X5_skip_r ht (upd I 3 (nI 0)) A J it dyn 34 = 1 := q.1
        have q4 : L_X5_skip_I ht (upd I 3 (nI 0)) A J it dyn 34 = upd I 3 (nI 1) := q.2
        obtain ⟨f1, f2, f3, f5⟩ := capt_C (ht := ht) (J := J) (it := it) hT dyn h34
        simp only [q3, q4, show ¬ (1 : Int32) = 0 by decide, if_false, f1, f2, f3, fin _ _ f5]
        exact ⟨trivial, trivial, trivial, by simp [ns1, hL, ks, ks4], f5⟩
      · have q := skip_n (ht := ht) (J := J) (it := it) hT dyn (p := 0) (by omega) 34 (by decide) h34
        have q3 : L_X5_skip_r ht (upd I 3 (nI 0)) A J it dyn 34 = 0 := q.1
        have q4 : L_X5_skip_I ht (upd I 3 (nI 0)) A J it dyn 34 = upd I 3 (nI 0) := q.2
        have er : rd t = (none, 0, []) := by unfold rd; rw [if_neg hL, if_neg h33, if_neg h34]
        simp only [q3, q4, if_true, er, fin _ _ (Nat.zero_le _), Option.map_none, icL, List.map_nil, List.append_nil]
        exact ⟨trivial, trivial, trivial, by simp [ns1, hL, ks, ks4], Nat.zero_le _⟩
end TK
