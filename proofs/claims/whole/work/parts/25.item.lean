/-! ITEMS: the class -/
abbrev aItem : Type := Nat × Nat × Nat × Nat × List aPart
def rdE (k nm rep : Nat) (e : pxT) : Option aItem × Nat × List aPart := (e.1.map (fun _ => (k, nm, rep, 0, e.2.2)), e.2.1, e.2.2)
def st01 (t : List Nat) (p : Nat) : Nat := if ch t p = 42 then 1 else 0
/-- an item read: what is made, how far it is read, the parts made -/
def rd (t : List Nat) : Option aItem × Nat × List aPart :=
  if 97 ≤ ch t 0 ∧ ch t 0 ≤ 122 then
    (if ch t ((pnm t 0).2 + st01 t (pnm t 0).2) = 61 then rdE 0 (pnm t 0).1 (st01 t (pnm t 0).2) (px t 8 0 ((pnm t 0).2 + st01 t (pnm t 0).2 + 1) 0)
    else (some (0, (pnm t 0).1, st01 t (pnm t 0).2, 0, []), (pnm t 0).2 + st01 t (pnm t 0).2, []))
  else if ch t 0 = 33 then rdE 1 0 (st01 t 1) (px t 8 0 (1 + st01 t 1) 0)
  else if ch t 0 = 34 then (if t.length = 1 then (none, 1, []) else (some (2, 0, 0, min (t.length - 1) 36, []), 1 + min (t.length - 1) 36, []))
  else (none, 0, [])
/-- an item as the class makes it; its parts begin at the place D -/
def icell (D : Nat) (x : aItem) : Option fsC := some (.inr (1, [fsI (if x.1 = 0 then 102 else if x.1 = 1 then 33 else 34), fsI (if x.1 = 0 then nI (cnm x.2.1) else 0), fsI (nI x.2.2.1), fsR (if x.2.2.2.2 = [] then none else some (D + (x.2.2.2.2.length - 1) + 41)), fsI (nI ((x.2.2.2.1 + 11) / 12))]))
def icL (D : Nat) (x : Option aItem) : fsH := match x with
  | some x => [icell D x]
  | none => []
theorem pbr_root {E : Nat → Nat → pxT} {t : List Nat} {p P j : Nat} (h : (pbr E t p P).1 = some j) : j + 1 = P + (pbr E t p P).2.2.length := by
  unfold pbr at h ⊢
  rcases hE : E p P with ⟨o1, p1, l1⟩
  rw [hE] at h
  cases o1 with
  | none => cases h
  | some a =>
    dsimp only at h ⊢
    split at h
    · rcases hE2 : E (p1 + 1) (P + l1.length) with ⟨o2, p2, l2⟩
      rw [hE2] at h
      rename_i hS
      cases o2 with
      | none => cases h
      | some b =>
        dsimp only at h ⊢
        simp only [if_pos hS]
        split at h
        · rename_i h63
          split at h
          · rename_i h58
            rcases hE3 : E (p2 + 1) (P + l1.length + l2.length) with ⟨o3, p3, l3⟩
            rw [hE3] at h
            cases o3 with
            | none => cases h
            | some c =>
              dsimp only at h ⊢
              split at h
              · rename_i h41
                cases h
                simp only [if_pos h63, if_pos h58, hE3, if_pos h41]
                simp; omega
              · cases h
          · cases h
        · rename_i h63
          split at h
          · rename_i h41
            cases h
            simp only [if_neg h63, if_pos h41]
            simp; omega
          · cases h
    · cases h
theorem px_root (t : List Nat) (n d p P : Nat) {j : Nat} (h : (px t n d p P).1 = some j) : j + 1 = P + (px t n d p P).2.2.length := by
  cases n with
  | zero => cases h
  | succ n =>
    unfold px at h ⊢
    split at h
    · rename_i h1
      simp only [if_pos h1] at h ⊢
      cases hv : (pnum t p).1 with
      | none => rw [hv] at h; cases h
      | some v => rw [hv] at h; cases h; simp [numL]
    · rename_i h1
      simp only [if_neg h1]
      split at h
      · rename_i h2
        cases h
        simp only [if_pos h2]; simp
      · rename_i h2
        simp only [if_neg h2]
        split at h
        · rename_i h3
          simp only [if_pos h3]
          split at h
          · rename_i h4
            cases h
            simp only [if_pos h4]; simp
          · cases h
        · rename_i h3
          simp only [if_neg h3]
          split at h
          · cases h
          · rename_i h4
            simp only [if_neg h4]
            split at h
            · rename_i h5
              simp only [if_pos h5]
              exact pbr_root h
            · cases h
section IT
variable {ht : Nat} {I : Nat → Int32} {A : Nat → Nat → Int32} {J : Nat → Nat → Int64} {it : Nat → Option Nat} {t : List Nat}
theorem star_C (hT : txR 2 2 I A t) (dyn : fsH) {p : Nat} (hp : p ≤ t.length) : L_X5_skip_r ht (upd I 3 (nI p)) A J it dyn 42 = nI (st01 t p) ∧ L_X5_skip_I ht (upd I 3 (nI p)) A J it dyn 42 = upd I 3 (nI (p + st01 t p)) ∧ (L_X5_skip_r ht (upd I 3 (nI p)) A J it dyn 42 = 0 ∨ L_X5_skip_r ht (upd I 3 (nI p)) A J it dyn 42 = 1) ∧ p + st01 t p ≤ t.length := by
  have hl := hT.2.1
  unfold st01
  by_cases h : ch t p = 42
  · have q := skip_l (ht := ht) (J := J) (it := it) hT dyn (p := p) (by omega) 42 (by decide) h
    have q1 : L_X5_skip_r ht (upd I 3 (nI p)) A J it dyn 42 = 1 := q.1
    have q2 : L_X5_skip_I ht (upd I 3 (nI p)) A J it dyn 42 = upd I 3 (nI (p + 1)) := q.2
    have : p < t.length := ch_in (by omega)
    rw [q1, q2, if_pos h]
    exact ⟨rfl, rfl, Or.inr rfl, by omega⟩
  · have q := skip_n (ht := ht) (J := J) (it := it) hT dyn (p := p) (by omega) 42 (by decide) h
    have q1 : L_X5_skip_r ht (upd I 3 (nI p)) A J it dyn 42 = 0 := q.1
    have q2 : L_X5_skip_I ht (upd I 3 (nI p)) A J it dyn 42 = upd I 3 (nI p) := q.2
    rw [q1, q2, if_neg h]
    exact ⟨rfl, rfl, Or.inl rfl, by omega⟩
theorem ex_C (hT : txR 2 2 I A t) (dyn : fsH) {p : Nat} (hp : p ≤ t.length) : L_X5_expression_r ht (upd I 3 (nI p)) A J it dyn 0 = (px t 8 0 p 0).1.map (fun j => dyn.length + j + 41) ∧ L_X5_expression_I ht (upd I 3 (nI p)) A J it dyn 0 = upd I 3 (nI (px t 8 0 p 0).2.1) ∧ L_X5_expression_dyn ht (upd I 3 (nI p)) A J it dyn 0 = dyn ++ (px t 8 0 p 0).2.2.map (pcell dyn.length) ∧ S_X5_expression ht (upd I 3 (nI p)) A J it dyn 0 ∧ (px t 8 0 p 0).2.1 ≤ t.length :=
  expr_C hT dyn.length 8 0 p 0 dyn (by decide) (by decide) rfl hp
theorem field_C (hT : txR 2 2 I A t) (dyn : fsH) (hL : 97 ≤ ch t 0 ∧ ch t 0 ≤ 122) : L_X5_fieldItem_r ht (upd I 3 (nI 0)) A J it dyn = (rd t).1.map (fun _ => dyn.length + (rd t).2.2.length + 41) ∧ L_X5_fieldItem_I ht (upd I 3 (nI 0)) A J it dyn = upd I 3 (nI (rd t).2.1) ∧ L_X5_fieldItem_dyn ht (upd I 3 (nI 0)) A J it dyn = dyn ++ (rd t).2.2.map (pcell dyn.length) ++ icL dyn.length (rd t).1 ∧ S_X5_fieldItem ht (upd I 3 (nI 0)) A J it dyn ∧ (rd t).2.1 ≤ t.length := by
  have hl := hT.2.1
  obtain ⟨m1, m2, m3⟩ := name_C (ht := ht) (J := J) (it := it) (dyn := dyn) hT (p := 0) (by omega) hL
  have hle := pnm_le hL
  unfold rd
  simp only [if_pos hL]
  unfold L_X5_fieldItem_r L_X5_fieldItem_I L_X5_fieldItem_dyn S_X5_fieldItem
  simp only [m1, m2]
  generalize (pnm t 0).2 = p1 at *
  generalize (pnm t 0).1 = nm at *
  obtain ⟨s1, s2, s3, s4⟩ := star_C (ht := ht) (J := J) (it := it) hT dyn (p := p1) hle.2
  have ss := skip_s (ht := ht) (J := J) (it := it) hT dyn (p := p1) (by omega) 42
  rw [s1] at s3
  simp only [s1, s2]
  generalize st01 t p1 = rep at *
  have ss2 := skip_s (ht := ht) (J := J) (it := it) hT dyn (p := p1 + rep) (by omega) 61
  by_cases h61 : ch t (p1 + rep) = 61
  · have q := skip_l (ht := ht) (J := J) (it := it) hT dyn (p := p1 + rep) (by omega) 61 (by decide) h61
    have q1 : L_X5_skip_r ht (upd I 3 (nI (p1 + rep))) A J it dyn 61 = 1 := q.1
    have q2 : L_X5_skip_I ht (upd I 3 (nI (p1 + rep))) A J it dyn 61 = upd I 3 (nI (p1 + rep + 1)) := q.2
    have hlt : p1 + rep < t.length := ch_in (by omega)
    obtain ⟨e1, e2, e3, e4, e5⟩ := ex_C (ht := ht) (J := J) (it := it) hT dyn (p := p1 + rep + 1) (by omega)
    simp only [q1, q2, show ¬ (1 : Int32) = 0 by decide, if_false, if_pos h61, e1, e2, e3, rdE]
    cases he : (px t 8 0 (p1 + rep + 1) 0).1 with
    | none =>
      simp only [Option.map_none, if_true, icL, List.append_nil]
      exact ⟨trivial, trivial, trivial, by simp [m3, ss, ss2, e4], e5⟩
    | some j =>
      have hr := px_root t 8 0 (p1 + rep + 1) 0 he
      have hne : (px t 8 0 (p1 + rep + 1) 0).2.2 ≠ [] := fun h => by rw [h] at hr; simp at hr
      obtain rfl : j = (px t 8 0 (p1 + rep + 1) 0).2.2.length - 1 := by omega
      simp only [Option.map_some, reduceCtorEq, if_false, icL, icell, if_neg hne]
      exact ⟨by simp, trivial, by simp [nI_0], by simp [m3, ss, ss2, e4, s3], e5⟩
  · have q := skip_n (ht := ht) (J := J) (it := it) hT dyn (p := p1 + rep) (by omega) 61 (by decide) h61
    have q1 : L_X5_skip_r ht (upd I 3 (nI (p1 + rep))) A J it dyn 61 = 0 := q.1
    have q2 : L_X5_skip_I ht (upd I 3 (nI (p1 + rep))) A J it dyn 61 = upd I 3 (nI (p1 + rep)) := q.2
    simp only [q1, q2, if_true, if_neg h61, Option.map_some, icL, icell, List.map_nil, List.append_nil, List.length_nil]
    exact ⟨trivial, trivial, rfl, by simp [m3, ss, ss2, s3], s4⟩
theorem check_C (hT : txR 2 2 I A t) (dyn : fsH) (h33 : ch t 0 = 33) : L_X5_checkItem_r ht (upd I 3 (nI 1)) A J it dyn = (rd t).1.map (fun _ => dyn.length + (rd t).2.2.length + 41) ∧ L_X5_checkItem_I ht (upd I 3 (nI 1)) A J it dyn = upd I 3 (nI (rd t).2.1) ∧ L_X5_checkItem_dyn ht (upd I 3 (nI 1)) A J it dyn = dyn ++ (rd t).2.2.map (pcell dyn.length) ++ icL dyn.length (rd t).1 ∧ S_X5_checkItem ht (upd I 3 (nI 1)) A J it dyn ∧ (rd t).2.1 ≤ t.length := by
  have hl := hT.2.1
  have h0 : 0 < t.length := ch_in (by omega)
  have hnL : ¬ (97 ≤ ch t 0 ∧ ch t 0 ≤ 122) := by omega
  unfold rd
  simp only [if_neg hnL, if_pos h33]
  unfold L_X5_checkItem_r L_X5_checkItem_I L_X5_checkItem_dyn S_X5_checkItem
  obtain ⟨s1, s2, s3, s4⟩ := star_C (ht := ht) (J := J) (it := it) hT dyn (p := 1) (by omega)
  have ss := skip_s (ht := ht) (J := J) (it := it) hT dyn (p := 1) (by omega) 42
  rw [s1] at s3
  simp only [s1, s2]
  generalize st01 t 1 = rep at *
  obtain ⟨e1, e2, e3, e4, e5⟩ := ex_C (ht := ht) (J := J) (it := it) hT dyn (p := 1 + rep) s4
  simp only [e1, e2, e3, rdE]
  cases he : (px t 8 0 (1 + rep) 0).1 with
  | none =>
    simp only [Option.map_none, if_true, icL, List.append_nil]
    exact ⟨trivial, trivial, trivial, by simp [ss, e4], e5⟩
  | some j =>
    have hr := px_root t 8 0 (1 + rep) 0 he
    have hne : (px t 8 0 (1 + rep) 0).2.2 ≠ [] := fun h => by rw [h] at hr; simp at hr
    obtain rfl : j = (px t 8 0 (1 + rep) 0).2.2.length - 1 := by omega
    simp only [Option.map_some, reduceCtorEq, if_false, icL, icell, if_neg hne]
    exact ⟨by simp, trivial, by simp [nI_0], by simp [ss, e4, s3], e5⟩
theorem capt_C (hT : txR 2 2 I A t) (dyn : fsH) (h34 : ch t 0 = 34) : L_X5_captionItem_r ht (upd I 3 (nI 1)) A J it dyn = (rd t).1.map (fun _ => dyn.length + (rd t).2.2.length + 41) ∧ L_X5_captionItem_I ht (upd I 3 (nI 1)) A J it dyn = upd I 3 (nI (rd t).2.1) ∧ L_X5_captionItem_dyn ht (upd I 3 (nI 1)) A J it dyn = dyn ++ (rd t).2.2.map (pcell dyn.length) ++ icL dyn.length (rd t).1 ∧ (rd t).2.1 ≤ t.length := by
  have hl := hT.2.1
  have h0 : 0 < t.length := ch_in (by omega)
  have hnL : ¬ (97 ≤ ch t 0 ∧ ch t 0 ≤ 122) := by omega
  have hn3 : ¬ ch t 0 = 33 := by omega
  have ew : (if (36 : Int32) < (upd I 3 (nI 1)) 2 - nI 1 then 36 else (upd I 3 (nI 1)) 2 - nI 1) = nI (min (t.length - 1) 36) := by
    rw [upd_n _ _ (by decide), hT.1, nI_subN (by omega), iL 36]
    simp (disch := omega) only [nI_ltI]
    split
    · rw [Nat.min_eq_right (by omega)]
    · rw [Nat.min_eq_left (by omega)]
  unfold rd
  simp only [if_neg hnL, if_neg hn3, if_pos h34]
  unfold L_X5_captionItem_r L_X5_captionItem_I L_X5_captionItem_dyn
  simp only [ew, upd_s, nI_add, upd_upd]
  by_cases h1 : t.length = 1
  · have hz : nI (min (t.length - 1) 36) = 0 := by rw [h1]; rfl
    simp only [if_pos h1, hz, if_true, Option.map_none, icL, List.map_nil, List.append_nil]
    exact ⟨trivial, by rw [h1]; rfl, trivial, by omega⟩
  · have hz : ¬ nI (min (t.length - 1) 36) = 0 := by rw [iL 0, nI_eq (by omega) (by omega)]; omega
    have ed : (nI (min (t.length - 1) 36) + 12 - 1) / 12 = nI ((min (t.length - 1) 36 + 11) / 12) := (by decide +kernel : ∀ w : Nat, w < 37 → (nI w + 12 - 1) / 12 = nI ((w + 11) / 12)) _ (by omega)
    simp only [if_neg h1, if_neg hz, Option.map_some, icL, icell, List.map_nil, List.append_nil, ed]
    exact ⟨rfl, trivial, rfl, by omega⟩
end IT
