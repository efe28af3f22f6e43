/-! EXPRESSIONS: the class against a reading of lists -/
abbrev aPart : Type := Nat × Nat × Nat × Nat × Nat
/-- a part as the class makes it; the item's parts begin at the place D -/
def pcell (D : Nat) (q : aPart) : Option fsC := some (.inr (3,
  if q.1 = 0 then [fsI 48, fsJ (lN q.2.2.2.2), fsI 0, fsR none, fsR none, fsR none, fsI (-1)]
  else if q.1 = 1 then [fsI 97, fsJ 0, fsI (nI (cnm q.2.1)), fsR none, fsR none, fsR none, fsI (-1)]
  else if q.1 = 2 then [fsI 35, fsJ 0, fsI (nI (cnm q.2.1)), fsR none, fsR none, fsR none, fsI (-1)]
  else [fsI (nI q.1), fsJ 0, fsI 0, fsR (some (D + q.2.1 + 41)), fsR (some (D + q.2.2.1 + 41)), fsR (if q.1 = 63 then some (D + q.2.2.2.1 + 41) else none), fsI (-1)]))
def numL (v : Option Nat) : List aPart := match v with
  | some v => [(0, 0, 0, 0, v)]
  | none => []
abbrev pxT : Type := Option Nat × Nat × List aPart
def pbr (E : Nat → Nat → pxT) (t : List Nat) (p P : Nat) : pxT :=
  match E p P with
  | (none, p1, l1) => (none, p1, l1)
  | (some a, p1, l1) =>
    if ch t p1 = 43 ∨ ch t p1 = 45 ∨ ch t p1 = 42 ∨ ch t p1 = 47 ∨ ch t p1 = 60 ∨ ch t p1 = 61 ∨ ch t p1 = 63 then
      match E (p1 + 1) (P + l1.length) with
      | (none, p2, l2) => (none, p2, l1 ++ l2)
      | (some b, p2, l2) =>
        if ch t p1 = 63 then
          (if ch t p2 = 58 then
            match E (p2 + 1) (P + l1.length + l2.length) with
            | (none, p3, l3) => (none, p3, l1 ++ l2 ++ l3)
            | (some c, p3, l3) => if ch t p3 = 41 then (some (P + l1.length + l2.length + l3.length), p3 + 1, l1 ++ l2 ++ l3 ++ [(63, a, b, c, 0)]) else (none, p3, l1 ++ l2 ++ l3)
          else (none, p2, l1 ++ l2))
        else if ch t p2 = 41 then (some (P + l1.length + l2.length), p2 + 1, l1 ++ l2 ++ [(ch t p1, a, b, 0, 0)]) else (none, p2, l1 ++ l2)
    else (none, p1, l1)
def px (t : List Nat) : Nat → Nat → Nat → Nat → pxT
  | 0, _, p, _ => (none, p, [])
  | n + 1, d, p, P =>
    if 48 ≤ ch t p ∧ ch t p ≤ 57 then ((pnum t p).1.map (fun _ => P), (pnum t p).2, numL (pnum t p).1)
    else if 97 ≤ ch t p ∧ ch t p ≤ 122 then (some P, (pnm t p).2, [(1, (pnm t p).1, 0, 0, 0)])
    else if ch t p = 35 then (if 97 ≤ ch t (p + 1) ∧ ch t (p + 1) ≤ 122 then (some P, (pnm t (p + 1)).2, [(2, (pnm t (p + 1)).1, 0, 0, 0)]) else (none, p + 1, []))
    else if 6 ≤ d then (none, p, [])
    else if ch t p = 40 then pbr (px t n (d + 1)) t (p + 1) P
    else (none, p, [])
section EX
variable {ht : Nat} {I : Nat → Int32} {A : Nat → Nat → Int32} {J : Nat → Nat → Int64} {it : Nat → Option Nat} {t : List Nat}
theorem number_C (hT : txR 2 2 I A t) (D p : Nat) (dyn : fsH) (hp : p ≤ t.length) : L_X5_number_r ht (upd I 3 (nI p)) A J it dyn = (pnum t p).1.map (fun _ => dyn.length + 41) ∧ L_X5_number_I ht (upd I 3 (nI p)) A J it dyn = upd I 3 (nI (pnum t p).2) ∧ L_X5_number_dyn ht (upd I 3 (nI p)) A J it dyn = dyn ++ (numL (pnum t p).1).map (pcell D) ∧ S_X5_number ht (upd I 3 (nI p)) A J it dyn ∧ (pnum t p).2 ≤ t.length := by
  have hl := hT.2.1
  obtain ⟨b1, b2, b3⟩ := pdg_b t 6 p 0 hp
  have d6 := dig_C (ht := ht) (J := J) (it := it) (dyn := dyn) hT 6 (by decide) 6 70 0 p 0 (by decide) rfl hp (by decide)
  have d6r : L_X5_digits_r ht (upd I 3 (nI p)) A J it dyn 6 = lN (pdg t 6 p 0).1 := d6.1
  have d6i : L_X5_digits_I ht (upd I 3 (nI p)) A J it dyn 6 = upd I 3 (nI (pdg t 6 p 0).2) := d6.2.1
  have d6s : S_X5_digits ht (upd I 3 (nI p)) A J it dyn 6 := d6.2.2
  unfold pnum
  generalize (pdg t 6 p 0).2 = p1 at *
  generalize (pdg t 6 p 0).1 = v1 at *
  have k := skip_C (ht := ht) (J := J) (it := it) (dyn := dyn) hT (p := p1) (by omega) 46 (by decide)
  have kr : L_X5_skip_r ht (upd I 3 (nI p1)) A J it dyn 46 = (if ch t p1 = 46 then 1 else 0) := k.1
  have ki : L_X5_skip_I ht (upd I 3 (nI p1)) A J it dyn 46 = upd I 3 (nI (if ch t p1 = 46 then p1 + 1 else p1)) := k.2.1
  have ks : S_X5_skip ht (upd I 3 (nI p1)) A J it dyn 46 := k.2.2
  unfold L_X5_number_r L_X5_number_I L_X5_number_dyn S_X5_number
  simp only [d6r, d6i, kr, ki]
  by_cases h46 : ch t p1 = 46
  · have hp1 : p1 < t.length := ch_in (by omega)
    obtain ⟨e, hs⟩ := next_C (ht := ht) (J := J) (it := it) (dyn := dyn) hT (p := p1 + 1) (by omega)
    have hc := ch_lt (p := p1 + 1) hT.2.2.2
    simp only [if_pos h46, e, isD_0 hc, show ¬ (1 : Int32) = 0 by decide, if_false]
    by_cases hd : 48 ≤ ch t (p1 + 1) ∧ ch t (p1 + 1) ≤ 57
    · have hp2 : p1 + 1 < t.length := ch_in (by omega)
      have d2 := dig_C (ht := ht) (J := J) (it := it) (dyn := dyn) hT 2 (by decide) 2 70 0 (p1 + 1) 0 (by decide) rfl (by omega) (by decide)
      have d2r : L_X5_digits_r ht (upd I 3 (nI (p1 + 1))) A J it dyn 2 = lN (pdg t 2 (p1 + 1) 0).1 := d2.1
      have d2i : L_X5_digits_I ht (upd I 3 (nI (p1 + 1))) A J it dyn 2 = upd I 3 (nI (pdg t 2 (p1 + 1) 0).2) := d2.2.1
      have d2s : S_X5_digits ht (upd I 3 (nI (p1 + 1))) A J it dyn 2 := d2.2.2
      have hnd : ¬ ¬ (48 ≤ ch t (p1 + 1) ∧ ch t (p1 + 1) ≤ 57) := fun h => h hd
      simp only [if_neg hnd, if_pos hd, d2r, d2i, upd_s]
      by_cases hd2 : 48 ≤ ch t (p1 + 2) ∧ ch t (p1 + 2) ≤ 57
      · have hp3 : p1 + 2 < t.length := ch_in (by omega)
        have ep : pdg t 2 (p1 + 1) 0 = (10 * (ch t (p1 + 1) - 48) + (ch t (p1 + 2) - 48), p1 + 3) := by simp [pdg, hd, hd2]
        rw [ep]
        have hne : ¬ nI (p1 + 3) - nI (p1 + 1) = 1 := by
          rw [nI_subN (by omega), iL 1, nI_eq (by omega) (by omega)]; omega
        simp only [if_pos hd2, if_neg hne, Option.map_some, numL, List.map_cons, List.map_nil]
        refine ⟨trivial, trivial, ?_, ⟨d6s, ks, fun _ => ⟨hs, fun _ => d2s⟩⟩, by omega⟩
        rw [show (100 : Int64) = lN 100 from rfl, lN_mul, lN_add]
        rfl
      · have ep : pdg t 2 (p1 + 1) 0 = (ch t (p1 + 1) - 48, p1 + 2) := by simp [pdg, hd, hd2]
        rw [ep]
        have hne : nI (p1 + 2) - nI (p1 + 1) = 1 := by
          rw [nI_subN (by omega), show p1 + 2 - (p1 + 1) = 1 by omega]; rfl
        simp only [if_neg hd2, if_pos hne, Option.map_some, numL, List.map_cons, List.map_nil]
        refine ⟨trivial, trivial, ?_, ⟨d6s, ks, fun _ => ⟨hs, fun _ => d2s⟩⟩, by omega⟩
        rw [show (100 : Int64) = lN 100 from rfl, show (10 : Int64) = lN 10 from rfl, lN_mul, lN_mul, lN_add]
        rfl
    · simp only [if_pos hd, if_neg hd, not_false_eq_true, if_true, Option.map_none, numL, List.map_nil, List.append_nil]
      exact ⟨trivial, trivial, trivial, ⟨d6s, ks, fun _ => ⟨hs, fun h => absurd hd h⟩⟩, by omega⟩
  · simp only [if_neg h46, if_true, Option.map_some, numL, List.map_cons, List.map_nil]
    refine ⟨trivial, trivial, ?_, ⟨d6s, ks, fun h => absurd trivial h⟩, b2⟩
    rw [show (100 : Int64) = lN 100 from rfl, lN_mul]
    rfl
end EX
