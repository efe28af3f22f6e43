/-! WHICH CELLS AN EXPRESSION NAMES: the reference -/
section MC
variable {ht : Nat} {F : List aItem} {R : Nat} {I : Nat → Int32} {A : Nat → Nat → Int32} {J : Nat → Nat → Int64} {it : Nat → Option Nat} {dyn : fsH}
theorem nm119_M (h : MF F R I A J) {v1 v2 v5 : Int32} {g : Nat} (hg : g < 16) (y : Int64) : S_Lb_X8_names_119 70 ht I A J it dyn v1 v2 y v5 (nI g) 0 ∧ ∀ u : Nat, bt (Lb_X8_names_119_v3 70 ht I A J it dyn v1 v2 y v5 (nI g) 0) u ↔ bt y u ∨ ∃ i : Nat, i < R ∧ u = 4 * g + i := by
  have hR := h.2.2.2.2
  refine lp (S := Int64) (F := fun n z v => Lb_X8_names_119_v3 n ht I A J it dyn v1 v2 z v5 (nI g) v) (SF := fun n z v => S_Lb_X8_names_119 n ht I A J it dyn v1 v2 z v5 (nI g) v) R (fun b z => ∀ u : Nat, bt z u ↔ bt y u ∨ ∃ i : Nat, i < b ∧ u = 4 * g + i) (fun z i => z ||| sb (4 * g + i)) ?_ ?_ R 70 0 y (by omega) (by omega) (fun u => ⟨Or.inl, fun h => h.elim id (fun ⟨i, h, _⟩ => by omega)⟩)
  · intro n z i hi hP
    left
    have zl : ¬ nI R ≤ nI i := by rw [nI_leI (by omega) (by omega)]; omega
    have ec : (4 : Int32) * nI g + nI i = nI (4 * g + i) := by rw [iL 4, nI_mul, nI_add]
    simp only [Lb_X8_names_119_v3, S_Lb_X8_names_119, h.2.2.2.1, if_neg zl, ec, nI_1]
    refine ⟨rfl, fun u => ?_, fun h _ => h⟩
    rw [bt_or, hP u, bt_sb (by omega)]
    constructor
    · rintro ((h1 | ⟨j, h1, h2⟩) | h1)
      · exact Or.inl h1
      · exact Or.inr ⟨j, by omega, h2⟩
      · exact Or.inr ⟨i, by omega, h1⟩
    · rintro (h1 | ⟨j, h1, h2⟩)
      · exact Or.inl (Or.inl h1)
      · by_cases e : j = i
        · subst e; exact Or.inr h2
        · exact Or.inl (Or.inr ⟨j, by omega, h2⟩)
  · intro n z hP
    have zl : nI R ≤ nI R := by rw [nI_leI (by omega) (by omega)]; omega
    simp only [Lb_X8_names_119_v3, S_Lb_X8_names_119, h.2.2.2.1, if_pos zl]
    exact ⟨trivial, fun h => absurd zl h⟩
theorem take_s {l : List aPart} {j : Nat} {q : aPart} (hq : l[j]? = some q) : l.take (j + 1) = l.take j ++ [q] := by
  rw [List.take_add_one, hq]; rfl
theorem q127 {x : aItem} (w : wfI x) {j : Nat} {q : aPart} (hq : x.2.2.2.2[j]? = some q) : ((q.1 = 1 ∨ q.1 = 2) → 27 ≤ q.2.1 ∧ q.2.1 ≤ 728) ∧ (q.1 = 0 ∨ q.1 = 1 ∨ q.1 = 2 ∨ opS q.1 ∨ q.1 = 63) ∧ (q.1 = 0 → q.2.2.2.2 < 10 ^ 9) ∧ q.1 < 127 := by
  have hjl : j < x.2.2.2.2.length := (List.getElem?_eq_some_iff.mp hq).1
  have hP : PT 7 0 x.2.2.2.2 := w.2.2.2.2.2.1.resolve_left (fun h2 => by rw [h2] at hjl; simp at hjl)
  obtain ⟨g1, g2, g3⟩ := PT_q hP q (List.mem_of_getElem? hq)
  refine ⟨g1, g2, g3, ?_⟩
  rcases g2 with e | e | e | e | e
  · omega
  · omega
  · omega
  · exact (opS_ne (Or.inl e)).2.2.2.2.2
  · omega
theorem nms_M (h : MF F R I A J) {k r : Nat} {x : aItem} (hx : F[k]? = some x) (hok : nOKL F x.2.2.1 x.2.2.2.2) (hr : r < 4) : ∀ (m n j : Nat) (y : Int64), j + m = x.2.2.2.2.length → m < n → (∀ u : Nat, bt y u ↔ nmL F R r (x.2.2.2.2.take j) u) → S_Lb_X8_names_8 n ht I A J it dyn (nI k) (nI r) y (nI (32 * k + j)) ∧ ∀ u : Nat, bt (Lb_X8_names_8_v3 n ht I A J it dyn (nI k) (nI r) y (nI (32 * k + j))) u ↔ nmL F R r x.2.2.2.2 u := by
  have hl := h.1.1
  have hk := F_lt hx
  have w := h.1.2 k x hx
  have M := h.2.1 k x hx
  have hlen := w.2.2.2.2.2.2
  have hin1 : vp_in (nI k) 17 := nI_in (by omega) (by omega)
  have ee : (32 : Int32) * nI k + nI x.2.2.2.2.length = nI (32 * k + x.2.2.2.2.length) := by rw [iL 32, nI_mul, nI_add]
  intro m
  induction m with
  | zero =>
    intro n j y hm hn hy
    obtain ⟨n, rfl⟩ : ∃ n', n = n' + 1 := ⟨n - 1, by omega⟩
    have zl : nI (32 * k + x.2.2.2.2.length) ≤ nI (32 * k + j) := by rw [nI_leI (by omega) (by omega)]; omega
    rw [Lb_X8_names_8_v3, S_Lb_X8_names_8]
    simp only [nI_clamp (show k < 2 ^ 31 by omega), M.2.2.2.2.1, ee, if_pos zl]
    rw [List.take_of_length_le (by omega)] at hy
    exact ⟨⟨hin1, fun h => absurd zl h⟩, hy⟩
  | succ m ih =>
    intro n j y hm hn hy
    obtain ⟨n, rfl⟩ : ∃ n', n = n' + 1 := ⟨n - 1, by omega⟩
    have zl : ¬ nI (32 * k + x.2.2.2.2.length) ≤ nI (32 * k + j) := by rw [nI_leI (by omega) (by omega)]; omega
    obtain ⟨q, hq⟩ : ∃ q, x.2.2.2.2[j]? = some q := ⟨_, List.getElem?_eq_getElem (show j < x.2.2.2.2.length by omega)⟩
    obtain ⟨c1, c2, c3, c4, c5⟩ := M.2.2.2.2.2 j q hq
    obtain ⟨g1, g2, _, hq127⟩ := q127 w hq
    have y1 : (nI q.1 = 1) ↔ q.1 = 1 := by rw [iL 1, nI_eq (by omega) (by omega)]
    have y2 : (nI q.1 = 2) ↔ q.1 = 2 := by rw [iL 2, nI_eq (by omega) (by omega)]
    have hin : vp_in (nI (32 * k + j)) 544 := nI_in (by omega) (by omega)
    have htake := take_s hq
    rw [Lb_X8_names_8_v3, S_Lb_X8_names_8]
    simp only [nI_clamp (show k < 2 ^ 31 by omega), nI_clamp (show 32 * k + j < 2 ^ 31 by omega), M.2.2.2.2.1, ee, if_neg zl, c1, c2, y1, y2, nI_1, h.2.2.1]
    rw [show 32 * k + j + 1 = 32 * k + (j + 1) by omega]
    by_cases hn : q.1 = 1 ∨ q.1 = 2
    · obtain ⟨f1, f2⟩ := find_M (ht := ht) (it := it) (dyn := dyn) h (g1 hn) rfl
      obtain ⟨o1, o2, o3, o4, o5⟩ := nOK_g hl (hok q (List.mem_of_getElem? hq)) hn
      rw [f1, o1]
      generalize hg : fg F q.2.1 = g at *
      have zn : ¬ nI g < 0 := by rw [iL 0, nI_ltI (by omega) (by omega)]; omega
      obtain ⟨rg1, rg2⟩ := MF_rp h o2
      have hin3 : vp_in (nI g) 17 := nI_in (by omega) (by omega)
      rcases hn with e1 | e1
      · have e2 : ¬ q.1 = 2 := by omega
        simp only [if_pos e1, if_neg zn, nI_clamp (show g < 2 ^ 31 by omega), rg1, nI01 rg2]
        have ec : (4 : Int32) * nI g + (if rp F g = 0 then 0 else nI r) = nI (4 * g + (if rp F g = 0 then 0 else r)) := by
          split
          · rw [iL 4, nI_mul, iL 0, nI_add]
          · rw [iL 4, nI_mul, nI_add]
        rw [ec]
        obtain ⟨i1, i2⟩ := ih n (j + 1) (y ||| sb (4 * g + (if rp F g = 0 then 0 else r))) (by omega) (by omega) (fun u => by
          rw [htake, nmL_a, nmL_1, bt_or, hy u, bt_sb (by split <;> omega)]
          unfold nmd
          rw [hg]
          constructor
          · rintro (a | a)
            · exact Or.inl a
            · exact Or.inr (Or.inl ⟨e1, a⟩)
          · rintro (a | ⟨_, a⟩ | ⟨a, _⟩)
            · exact Or.inl a
            · exact Or.inr a
            · exact absurd a e2)
        exact ⟨⟨hin1, fun _ => ⟨hin, ⟨fun _ => ⟨hin, f2⟩, fun h => absurd e1 h⟩, fun _ => ⟨hin, fun _ => hin3, fun h => absurd e1 h⟩, i1⟩⟩, i2⟩
      · have e0 : ¬ q.1 = 1 := by omega
        obtain ⟨l1, l2⟩ := nm119_M (ht := ht) (it := it) (dyn := dyn) h (v1 := nI k) (v2 := nI r) (v5 := nI (32 * k + j)) (g := g) (by omega) y
        simp only [if_neg e0, if_pos e1, if_neg zn]
        obtain ⟨i1, i2⟩ := ih n (j + 1) (Lb_X8_names_119_v3 70 ht I A J it dyn (nI k) (nI r) y (nI (32 * k + j)) (nI g) 0) (by omega) (by omega) (fun u => by
          rw [htake, nmL_a, nmL_1, l2 u, hy u]
          unfold nmd
          rw [hg]
          constructor
          · rintro (a | a)
            · exact Or.inl a
            · exact Or.inr (Or.inr ⟨e1, a⟩)
          · rintro (a | ⟨a, _⟩ | ⟨_, a⟩)
            · exact Or.inl a
            · exact absurd a e0
            · exact Or.inr a)
        exact ⟨⟨hin1, fun _ => ⟨hin, ⟨fun h => absurd h e0, fun _ => ⟨hin, fun _ => ⟨hin, f2⟩⟩⟩, fun _ => ⟨hin, fun h => absurd h e0, fun _ => l1⟩, i1⟩⟩, i2⟩
    · have e0 : ¬ q.1 = 1 := fun h => hn (Or.inl h)
      have e2 : ¬ q.1 = 2 := fun h => hn (Or.inr h)
      have zn : (-1 : Int32) < 0 := by decide
      simp only [if_neg e0, if_neg e2, if_pos zn]
      obtain ⟨i1, i2⟩ := ih n (j + 1) y (by omega) (by omega) (fun u => by
        rw [htake, nmL_a, nmL_1, hy u]
        exact ⟨Or.inl, fun h => h.elim id (fun h => absurd h (nmd_no hn))⟩)
      exact ⟨⟨hin1, fun _ => ⟨hin, ⟨fun h => absurd h e0, fun _ => ⟨hin, fun h => absurd h e2⟩⟩, fun h => absurd zn h, i1⟩⟩, i2⟩
theorem names_M (h : MF F R I A J) {k r : Nat} {x : aItem} (hx : F[k]? = some x) (hok : nOKL F x.2.2.1 x.2.2.2.2) (hr : r < 4) : S_X8_names ht I A J it dyn (nI k) (nI r) ∧ ∀ u : Nat, bt (L_X8_names_r ht I A J it dyn (nI k) (nI r)) u ↔ nmL F R r x.2.2.2.2 u := by
  have hlen := (h.1.2 k x hx).2.2.2.2.2.2
  have := nms_M (ht := ht) (it := it) (dyn := dyn) h hx hok hr x.2.2.2.2.length 70 0 0 (by omega) (by omega) (fun u => ⟨fun h => absurd h (bt_0 u), fun h => by obtain ⟨q, hq, _⟩ := h; simp at hq⟩)
  have e : (32 : Int32) * nI k = nI (32 * k + 0) := by rw [iL 32, nI_mul]; rfl
  unfold S_X8_names L_X8_names_r
  rw [e]
  exact this
end MC
