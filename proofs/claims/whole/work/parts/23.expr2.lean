/-! EXPRESSIONS: brackets and recursion, the class -/
abbrev exT (α : Type) : Type := Nat → (Nat → Int32) → (Nat → Nat → Int32) → (Nat → Nat → Int64) → (Nat → Option Nat) → fsH → Int32 → α
section EX
variable {ht : Nat} {I : Nat → Int32} {A : Nat → Nat → Int32} {J : Nat → Nat → Int64} {it : Nat → Option Nat} {t : List Nat}
def exSpec (ht : Nat) (I : Nat → Int32) (A : Nat → Nat → Int32) (J : Nat → Nat → Int64) (it : Nat → Option Nat) (t : List Nat) (D : Nat) (Er : exT (Option Nat)) (EI : exT (Nat → Int32)) (Ed : exT fsH) (ES : exT Prop) (E : Nat → Nat → pxT) (x : Int32) (p P : Nat) (dyn : fsH) : Prop :=
  Er ht (upd I 3 (nI p)) A J it dyn x = (E p P).1.map (fun j => D + j + 41) ∧ EI ht (upd I 3 (nI p)) A J it dyn x = upd I 3 (nI (E p P).2.1) ∧ Ed ht (upd I 3 (nI p)) A J it dyn x = dyn ++ (E p P).2.2.map (pcell D) ∧ ES ht (upd I 3 (nI p)) A J it dyn x ∧ (E p P).2.1 ≤ t.length
theorem skip_l (hT : txR 2 2 I A t) {p : Nat} (dyn : fsH) (hp : p ≤ 62) (x : Nat) (hx : x < 127) (h : ch t p = x) : L_X5_skip_r ht (upd I 3 (nI p)) A J it dyn (nI x) = 1 ∧ L_X5_skip_I ht (upd I 3 (nI p)) A J it dyn (nI x) = upd I 3 (nI (p + 1)) := by
  have k := skip_C (ht := ht) (J := J) (it := it) (dyn := dyn) hT hp x hx
  rw [if_pos h, if_pos h] at k
  exact ⟨k.1, k.2.1⟩
theorem skip_n (hT : txR 2 2 I A t) {p : Nat} (dyn : fsH) (hp : p ≤ 62) (x : Nat) (hx : x < 127) (h : ¬ ch t p = x) : L_X5_skip_r ht (upd I 3 (nI p)) A J it dyn (nI x) = 0 ∧ L_X5_skip_I ht (upd I 3 (nI p)) A J it dyn (nI x) = upd I 3 (nI p) := by
  have k := skip_C (ht := ht) (J := J) (it := it) (dyn := dyn) hT hp x hx
  rw [if_neg h, if_neg h] at k
  exact ⟨k.1, k.2.1⟩
theorem chr_C : ∀ c : Nat, c < 127 → fs_chr (nI c) := (by decide +kernel : ∀ c : Nat, c < 127 → narrow .char (.int (nI c)) = .int (nI c) ∧ fits .char (.int (nI c)) = true)
theorem skip_s (hT : txR 2 2 I A t) {p : Nat} (dyn : fsH) (hp : p ≤ 62) (x : Int32) : S_X5_skip ht (upd I 3 (nI p)) A J it dyn x := (next_C (ht := ht) (J := J) (it := it) (dyn := dyn) hT hp).2
set_option maxHeartbeats 4000000 in
theorem br_C (hT : txR 2 2 I A t) {D : Nat} {Er : exT (Option Nat)} {EI : exT (Nat → Int32)} {Ed : exT fsH} {ES : exT Prop} {E : Nat → Nat → pxT} {x : Int32} (H : ∀ (p P : Nat) (dyn : fsH), dyn.length = D + P → p ≤ t.length → exSpec ht I A J it t D Er EI Ed ES E x p P dyn) (p P : Nat) (dyn : fsH) (hd : dyn.length = D + P) (hp : p ≤ t.length) :
    exSpec ht I A J it t D (L_X5_inBrackets_r Er EI Ed) (L_X5_inBrackets_I Er EI Ed) (L_X5_inBrackets_dyn Er EI Ed) (S_X5_inBrackets Er EI Ed ES) (fun p P => pbr E t p P) x p P dyn := by
  have hl := hT.2.1
  obtain ⟨a1, a2, a3, a4, a5⟩ := H p P dyn hd hp
  unfold exSpec L_X5_inBrackets_r L_X5_inBrackets_I L_X5_inBrackets_dyn S_X5_inBrackets
  dsimp only
  rcases hE : E p P with ⟨o1, p1, l1⟩
  rw [hE] at a1 a2 a3 a5
  dsimp only at a1 a2 a3 a5
  simp only [a1, a2, a3]
  generalize hdy1 : dyn ++ l1.map (pcell D) = dyn1
  have hd1 : dyn1.length = D + (P + l1.length) := by rw [← hdy1]; simp; omega
  obtain ⟨n1, ns1⟩ := next_C (ht := ht) (J := J) (it := it) (dyn := dyn1) hT (p := p1) (by omega)
  cases o1 with
  | none =>
    have hpb : pbr E t p P = (none, p1, l1) := by simp only [pbr, hE]
    simp only [hpb, Option.map_none, if_true, hdy1]
    exact ⟨trivial, trivial, trivial, ⟨a4, ns1, fun h => absurd trivial h⟩, a5⟩
  | some a =>
    have hc := ch_lt (p := p1) hT.2.2.2
    simp only [Option.map_some, n1, isS_C hc, reduceCtorEq, if_false]
    by_cases hS : ch t p1 = 43 ∨ ch t p1 = 45 ∨ ch t p1 = 42 ∨ ch t p1 = 47 ∨ ch t p1 = 60 ∨ ch t p1 = 61 ∨ ch t p1 = 63
    · obtain ⟨k1, k2⟩ := skip_l (ht := ht) (J := J) (it := it) hT dyn1 (p := p1) (by omega) (ch t p1) hc rfl
      have ks := skip_s (ht := ht) (J := J) (it := it) hT dyn1 (p := p1) (by omega) (nI (ch t p1))
      have hp1 : p1 < t.length := ch_in (by omega)
      simp only [if_pos hS, k1, k2, show ¬ (1 : Int32) = 0 by decide, if_false]
      obtain ⟨b1, b2, b3, b4, b5⟩ := H (p1 + 1) (P + l1.length) dyn1 hd1 (by omega)
      rcases hE2 : E (p1 + 1) (P + l1.length) with ⟨o2, p2, l2⟩
      rw [hE2] at b1 b2 b3 b5
      dsimp only at b1 b2 b3 b5
      simp only [b1, b2, b3]
      generalize hdy2 : dyn1 ++ l2.map (pcell D) = dyn2
      have hd2 : dyn2.length = D + (P + l1.length + l2.length) := by rw [← hdy2]; simp; omega
      cases o2 with
      | none =>
        have hpb : pbr E t p P = (none, p2, l1 ++ l2) := by simp only [pbr, hE, if_pos hS, hE2]
        simp only [hpb, Option.map_none, if_true, List.map_append, ← List.append_assoc, hdy1, hdy2]
        exact ⟨trivial, trivial, trivial, ⟨a4, ns1, fun _ _ => ⟨ks, fun _ => ⟨b4, fun h => absurd trivial h⟩⟩⟩, b5⟩
      | some b =>
        simp only [Option.map_some, reduceCtorEq, if_false]
        by_cases h63 : ch t p1 = 63
        · have h63' : nI (ch t p1) = 63 := by rw [h63]; rfl
          simp only [if_pos h63', h63', if_true]
          have ks63 := skip_s (ht := ht) (J := J) (it := it) hT dyn1 (p := p1) (by omega) 63
          have c63 : fs_chr 63 := chr_C 63 (by decide)
          have k58s := skip_s (ht := ht) (J := J) (it := it) hT dyn2 (p := p2) (by omega) 58
          by_cases h58 : ch t p2 = 58
          · have q58 := skip_l (ht := ht) (J := J) (it := it) hT dyn2 (p := p2) (by omega) 58 (by decide) h58
            have q1 : L_X5_skip_r ht (upd I 3 (nI p2)) A J it dyn2 58 = 1 := q58.1
            have q2 : L_X5_skip_I ht (upd I 3 (nI p2)) A J it dyn2 58 = upd I 3 (nI (p2 + 1)) := q58.2
            have hp2 : p2 < t.length := ch_in (by omega)
            simp only [q1, q2, show ¬ (1 : Int32) = 0 by decide, if_false]
            obtain ⟨c1, c2, c3, c4, c5⟩ := H (p2 + 1) (P + l1.length + l2.length) dyn2 hd2 (by omega)
            rcases hE3 : E (p2 + 1) (P + l1.length + l2.length) with ⟨o3, p3, l3⟩
            rw [hE3] at c1 c2 c3 c5
            dsimp only at c1 c2 c3 c5
            simp only [c1, c2, c3]
            generalize hdy3 : dyn2 ++ l3.map (pcell D) = dyn3
            have hd3 : dyn3.length = D + (P + l1.length + l2.length + l3.length) := by rw [← hdy3]; simp; omega
            cases o3 with
            | none =>
              have hpb : pbr E t p P = (none, p3, l1 ++ l2 ++ l3) := by simp only [pbr, hE, if_pos hS, hE2, if_pos h63, if_pos h58, hE3]
              simp only [hpb, Option.map_none, if_true, List.map_append, ← List.append_assoc, hdy1, hdy2, hdy3]
              exact ⟨trivial, trivial, trivial, by simp [a4, ns1, ks63, b4, k58s, c4], c5⟩
            | some c =>
              simp only [Option.map_some, reduceCtorEq, if_false]
              have k41s := skip_s (ht := ht) (J := J) (it := it) hT dyn3 (p := p3) (by omega) 41
              by_cases h41 : ch t p3 = 41
              · have q41 := skip_l (ht := ht) (J := J) (it := it) hT dyn3 (p := p3) (by omega) 41 (by decide) h41
                have q1 : L_X5_skip_r ht (upd I 3 (nI p3)) A J it dyn3 41 = 1 := q41.1
                have q2 : L_X5_skip_I ht (upd I 3 (nI p3)) A J it dyn3 41 = upd I 3 (nI (p3 + 1)) := q41.2
                have hp3 : p3 < t.length := ch_in (by omega)
                have hpb : pbr E t p P = (some (P + l1.length + l2.length + l3.length), p3 + 1, l1 ++ l2 ++ l3 ++ [(63, a, b, c, 0)]) := by simp only [pbr, hE, if_pos hS, hE2, if_pos h63, if_pos h58, hE3, if_pos h41]
                simp only [q1, q2, show ¬ (1 : Int32) = 0 by decide, if_false, if_true, hpb, Option.map_some, List.map_append, ← List.append_assoc, hdy1, hdy2, hdy3, hd3]
                exact ⟨trivial, trivial, by simp [pcell]; rfl, by simp [a4, ns1, ks63, c63, b4, k58s, c4, k41s], by omega⟩
              · have q41 := skip_n (ht := ht) (J := J) (it := it) hT dyn3 (p := p3) (by omega) 41 (by decide) h41
                have q1 : L_X5_skip_r ht (upd I 3 (nI p3)) A J it dyn3 41 = 0 := q41.1
                have q2 : L_X5_skip_I ht (upd I 3 (nI p3)) A J it dyn3 41 = upd I 3 (nI p3) := q41.2
                have hpb : pbr E t p P = (none, p3, l1 ++ l2 ++ l3) := by simp only [pbr, hE, if_pos hS, hE2, if_pos h63, if_pos h58, hE3, if_neg h41]
                simp only [q1, q2, if_true, if_false, hpb, Option.map_none, List.map_append, ← List.append_assoc, hdy1, hdy2, hdy3]
                exact ⟨trivial, trivial, trivial, by simp [a4, ns1, ks63, c63, b4, k58s, c4, k41s], c5⟩
          · have q58 := skip_n (ht := ht) (J := J) (it := it) hT dyn2 (p := p2) (by omega) 58 (by decide) h58
            have q1 : L_X5_skip_r ht (upd I 3 (nI p2)) A J it dyn2 58 = 0 := q58.1
            have q2 : L_X5_skip_I ht (upd I 3 (nI p2)) A J it dyn2 58 = upd I 3 (nI p2) := q58.2
            have hpb : pbr E t p P = (none, p2, l1 ++ l2) := by simp only [pbr, hE, if_pos hS, hE2, if_pos h63, if_neg h58]
            simp only [q1, q2, if_true, if_false, hpb, Option.map_none, List.map_append, ← List.append_assoc, hdy1, hdy2]
            exact ⟨trivial, trivial, trivial, by simp [a4, ns1, ks63, b4, k58s], b5⟩
        · have h63' : ¬ nI (ch t p1) = 63 := by rw [iL 63, nI_eq (by omega) (by omega)]; exact h63
          simp only [if_neg h63', h63', if_false]
          have k41s := skip_s (ht := ht) (J := J) (it := it) hT dyn2 (p := p2) (by omega) 41
          by_cases h41 : ch t p2 = 41
          · have q41 := skip_l (ht := ht) (J := J) (it := it) hT dyn2 (p := p2) (by omega) 41 (by decide) h41
            have q1 : L_X5_skip_r ht (upd I 3 (nI p2)) A J it dyn2 41 = 1 := q41.1
            have q2 : L_X5_skip_I ht (upd I 3 (nI p2)) A J it dyn2 41 = upd I 3 (nI (p2 + 1)) := q41.2
            have hp2 : p2 < t.length := ch_in (by omega)
            have hpb : pbr E t p P = (some (P + l1.length + l2.length), p2 + 1, l1 ++ l2 ++ [(ch t p1, a, b, 0, 0)]) := by simp only [pbr, hE, if_pos hS, hE2, if_neg h63, if_pos h41]
            simp only [q1, q2, show ¬ (1 : Int32) = 0 by decide, if_false, if_true, hpb, Option.map_some, List.map_append, ← List.append_assoc, hdy1, hdy2, hd2]
            have g0 : ¬ ch t p1 = 0 := by omega
            have g1 : ¬ ch t p1 = 1 := by omega
            have g2 : ¬ ch t p1 = 2 := by omega
            exact ⟨trivial, trivial, by simp [pcell, g0, g1, g2, h63], by simp [a4, ns1, ks, b4, k41s, chr_C _ hc], by omega⟩
          · have q41 := skip_n (ht := ht) (J := J) (it := it) hT dyn2 (p := p2) (by omega) 41 (by decide) h41
            have q1 : L_X5_skip_r ht (upd I 3 (nI p2)) A J it dyn2 41 = 0 := q41.1
            have q2 : L_X5_skip_I ht (upd I 3 (nI p2)) A J it dyn2 41 = upd I 3 (nI p2) := q41.2
            have hpb : pbr E t p P = (none, p2, l1 ++ l2) := by simp only [pbr, hE, if_pos hS, hE2, if_neg h63, if_neg h41]
            simp only [q1, q2, if_true, if_false, hpb, Option.map_none, List.map_append, ← List.append_assoc, hdy1, hdy2]
            exact ⟨trivial, trivial, trivial, by simp [a4, ns1, ks, b4, k41s], b5⟩
    · have hpb : pbr E t p P = (none, p1, l1) := by simp only [pbr, hE, if_neg hS]
      simp only [hpb, if_neg hS, if_true, Option.map_none, hdy1]
      exact ⟨trivial, trivial, trivial, ⟨a4, ns1, fun _ h => absurd trivial h⟩, a5⟩
end EX
