/-! EXPRESSIONS: the recursion, the class -/
section EX
variable {ht : Nat} {I : Nat → Int32} {A : Nat → Nat → Int32} {J : Nat → Nat → Int64} {it : Nat → Option Nat} {t : List Nat}
theorem pnm_le {p : Nat} (hp : 97 ≤ ch t p ∧ ch t p ≤ 122) : p + 1 ≤ (pnm t p).2 ∧ (pnm t p).2 ≤ t.length := by
  have h1 : p < t.length := ch_in (by omega)
  unfold pnm
  split
  · rename_i h
    have h2 : p + 1 < t.length := ch_in (by omega)
    simp only; omega
  · simp only; omega
set_option maxHeartbeats 4000000 in
theorem expr_C (hT : txR 2 2 I A t) (D : Nat) : ∀ (n d p P : Nat) (dyn : fsH), d ≤ 6 → 7 ≤ n + d → dyn.length = D + P → p ≤ t.length →
    exSpec ht I A J it t D (fun ht I A J it dyn x => (T_X5_expression n ht I A J it dyn x).1) (fun ht I A J it dyn x => (T_X5_expression n ht I A J it dyn x).2.1) (fun ht I A J it dyn x => (T_X5_expression n ht I A J it dyn x).2.2.1) (fun ht I A J it dyn x => (T_X5_expression n ht I A J it dyn x).2.2.2) (px t n d) (nI d) p P dyn := by
  have hl := hT.2.1
  intro n
  induction n with
  | zero => intro d p P dyn h1 h2; omega
  | succ n ih =>
    intro d p P dyn hd6 hnd hd hp
    have hc := ch_lt (p := p) hT.2.2.2
    obtain ⟨n1, ns1⟩ := next_C (ht := ht) (J := J) (it := it) (dyn := dyn) hT (p := p) (by omega)
    have ks := skip_s (ht := ht) (J := J) (it := it) hT dyn (p := p) (by omega) 35
    unfold exSpec
    simp only [T_X5_expression, L_X5_expression_st_r, L_X5_expression_st_I, L_X5_expression_st_dyn, S_X5_expression_st, n1, isD_0 hc, isL_0 hc]
    unfold px
    by_cases hD : 48 ≤ ch t p ∧ ch t p ≤ 57
    · obtain ⟨u1, u2, u3, u4, u5⟩ := number_C (ht := ht) (J := J) (it := it) hT D p dyn hp
      have hnn : ¬ ¬ (48 ≤ ch t p ∧ ch t p ≤ 57) := fun h => h hD
      simp only [if_neg hnn, if_pos hD, u1, u2, u3, Option.map_map, hd]
      exact ⟨rfl, trivial, trivial, ⟨ns1, fun h => absurd h hnn, fun _ => u4⟩, u5⟩
    · simp only [if_pos hD, if_neg hD]
      by_cases hL : 97 ≤ ch t p ∧ ch t p ≤ 122
      · have hnn : ¬ ¬ (97 ≤ ch t p ∧ ch t p ≤ 122) := fun h => h hL
        have hle := pnm_le hL
        generalize hdn : dyn ++ [some (.inr (3, [fsI 0, fsJ 0, fsI 0, fsR none, fsR none, fsR none, fsI 0]))] = dynN
        obtain ⟨m1, m2, m3⟩ := name_C (ht := ht) (J := J) (it := it) (dyn := dynN) hT (p := p) (by omega) hL
        simp only [if_neg hnn, if_pos hL, m1, m2, hd, Option.map_some]
        exact ⟨trivial, trivial, by simp [pcell], ⟨ns1, fun _ => ⟨ns1, fun h => absurd h hnn, fun _ => m3⟩, fun h => absurd hD h⟩, hle.2⟩
      · simp only [if_pos hL, if_neg hL]
        by_cases h35 : ch t p = 35
        · have q35 := skip_l (ht := ht) (J := J) (it := it) hT dyn (p := p) (by omega) 35 (by decide) h35
          have q1 : L_X5_skip_r ht (upd I 3 (nI p)) A J it dyn 35 = 1 := q35.1
          have q2 : L_X5_skip_I ht (upd I 3 (nI p)) A J it dyn 35 = upd I 3 (nI (p + 1)) := q35.2
          have hp1 : p < t.length := ch_in (by omega)
          have hc1 := ch_lt (p := p + 1) hT.2.2.2
          obtain ⟨n2, ns2⟩ := next_C (ht := ht) (J := J) (it := it) (dyn := dyn) hT (p := p + 1) (by omega)
          simp only [q1, q2, show ¬ (1 : Int32) = 0 by decide, if_false, if_pos h35, n2, isL_0 hc1]
          by_cases hL1 : 97 ≤ ch t (p + 1) ∧ ch t (p + 1) ≤ 122
          · have hnn : ¬ ¬ (97 ≤ ch t (p + 1) ∧ ch t (p + 1) ≤ 122) := fun h => h hL1
            have hle := pnm_le hL1
            generalize hdn : dyn ++ [some (.inr (3, [fsI 0, fsJ 0, fsI 0, fsR none, fsR none, fsR none, fsI 0]))] = dynN
            obtain ⟨m1, m2, m3⟩ := name_C (ht := ht) (J := J) (it := it) (dyn := dynN) hT (p := p + 1) (by omega) hL1
            simp only [if_neg hnn, if_pos hL1, m1, m2, hd, Option.map_some]
            exact ⟨trivial, trivial, by simp [pcell], by simp [ns1, hD, hL, ks, ns2, m3], hle.2⟩
          · simp only [if_pos hL1, if_neg hL1, Option.map_none, List.map_nil, List.append_nil]
            exact ⟨trivial, trivial, trivial, by simp [ns1, hD, hL, ks, ns2, hL1], by omega⟩
        · have q35 := skip_n (ht := ht) (J := J) (it := it) hT dyn (p := p) (by omega) 35 (by decide) h35
          have q1 : L_X5_skip_r ht (upd I 3 (nI p)) A J it dyn 35 = 0 := q35.1
          have q2 : L_X5_skip_I ht (upd I 3 (nI p)) A J it dyn 35 = upd I 3 (nI p) := q35.2
          simp only [q1, q2, if_true, if_neg h35]
          by_cases h6 : 6 ≤ d
          · have h6' : (6 : Int32) ≤ nI d := by rw [iL 6, nI_leI (by omega) (by omega)]; exact h6
            simp only [if_pos h6', if_pos h6, Option.map_none, List.map_nil, List.append_nil]
            exact ⟨trivial, trivial, trivial, by simp [ns1, hD, hL, ks, h6'], hp⟩
          · have h6' : ¬ (6 : Int32) ≤ nI d := by rw [iL 6, nI_leI (by omega) (by omega)]; exact h6
            have ks4 := skip_s (ht := ht) (J := J) (it := it) hT dyn (p := p) (by omega) 40
            simp only [if_neg h6', if_neg h6]
            by_cases h40 : ch t p = 40
            · have q40 := skip_l (ht := ht) (J := J) (it := it) hT dyn (p := p) (by omega) 40 (by decide) h40
              have q3 : L_X5_skip_r ht (upd I 3 (nI p)) A J it dyn 40 = 1 := q40.1
              have q4 : L_X5_skip_I ht (upd I 3 (nI p)) A J it dyn 40 = upd I 3 (nI (p + 1)) := q40.2
              have hp1 : p < t.length := ch_in (by omega)
              obtain ⟨w1, w2, w3, w4, w5⟩ := br_C hT (fun p P dyn hd hp => ih (d + 1) p P dyn (by omega) (by omega) hd hp) (p + 1) P dyn hd (by omega)
              simp only [q3, q4, show ¬ (1 : Int32) = 0 by decide, if_false, if_pos h40, nI_1]
              exact ⟨w1, w2, w3, by simp [ns1, hD, hL, ks, h6', ks4, w4], w5⟩
            · have q40 := skip_n (ht := ht) (J := J) (it := it) hT dyn (p := p) (by omega) 40 (by decide) h40
              have q3 : L_X5_skip_r ht (upd I 3 (nI p)) A J it dyn 40 = 0 := q40.1
              have q4 : L_X5_skip_I ht (upd I 3 (nI p)) A J it dyn 40 = upd I 3 (nI p) := q40.2
              simp only [q3, q4, if_true, if_neg h40, Option.map_none, List.map_nil, List.append_nil]
              exact ⟨trivial, trivial, trivial, by simp [ns1, hD, hL, ks, h6', ks4], hp⟩
end EX
