/-! NAMES: the reference -/
section MN
variable {ht : Nat} {F : List aItem} {R : Nat} {I : Nat → Int32} {A : Nat → Nat → Int32} {J : Nat → Nat → Int64} {it : Nat → Option Nat} {dyn : fsH}
theorem MF_rp (h : MF F R I A J) {k : Nat} (hk : k < F.length) : A 18 k = nI (rp F k) ∧ rp F k ≤ 1 := by
  obtain ⟨x, hx⟩ := F_some hk
  have e : rp F k = x.2.2.1 := by unfold rp; rw [hx]
  rw [e]
  exact ⟨(h.2.1 k x hx).2.2.1, (h.1.2 k x hx).2.2.1⟩
theorem nI01 {n : Nat} (h : n ≤ 1) : (nI n = 0) ↔ n = 0 := by rw [iL 0, nI_eq (by omega) (by omega)]
theorem nm_M (h : MF F R I A J) {k : Nat} {x : aItem} (hx : F[k]? = some x) : ∀ (m n j : Nat), j + m = x.2.2.2.2.length → m < n → S_La_X8_named_5 n ht I A J it dyn (nI k) (nI (32 * k + j)) ∧ (nOKL F x.2.2.1 (x.2.2.2.2.drop j) → La_X8_named_5_r n ht I A J it dyn (nI k) (nI (32 * k + j)) = 1) ∧ (¬ nOKL F x.2.2.1 (x.2.2.2.2.drop j) → La_X8_named_5_r n ht I A J it dyn (nI k) (nI (32 * k + j)) = 0) := by
  have hl := h.1.1
  have hk := F_lt hx
  have w := h.1.2 k x hx
  have M := h.2.1 k x hx
  have hlen := w.2.2.2.2.2.2
  have hin1 : vp_in (nI k) 17 := nI_in (by omega) (by omega)
  have ee : (32 : Int32) * nI k + nI x.2.2.2.2.length = nI (32 * k + x.2.2.2.2.length) := by rw [iL 32, nI_mul, nI_add]
  intro m
  induction m with
  | zero =>
    intro n j hm hn
    obtain ⟨n, rfl⟩ : ∃ n', n = n' + 1 := ⟨n - 1, by omega⟩
    have zl : nI (32 * k + x.2.2.2.2.length) ≤ nI (32 * k + j) := by rw [nI_leI (by omega) (by omega)]; omega
    rw [La_X8_named_5_r, S_La_X8_named_5]
    simp only [nI_clamp (show k < 2 ^ 31 by omega), M.2.2.2.2.1, ee, if_pos zl]
    rw [List.drop_eq_nil_of_le (by omega)]
    exact ⟨⟨hin1, fun h => absurd zl h⟩, fun _ => trivial, fun h => absurd (fun q hq => by simp at hq) h⟩
  | succ m ih =>
    intro n j hm hn
    obtain ⟨n, rfl⟩ : ∃ n', n = n' + 1 := ⟨n - 1, by omega⟩
    have zl : ¬ nI (32 * k + x.2.2.2.2.length) ≤ nI (32 * k + j) := by rw [nI_leI (by omega) (by omega)]; omega
    obtain ⟨i1, i2, i3⟩ := ih n (j + 1) (by omega) (by omega)
    have hjl : j < x.2.2.2.2.length := by omega
    obtain ⟨q, hq⟩ : ∃ q, x.2.2.2.2[j]? = some q := ⟨_, List.getElem?_eq_getElem hjl⟩
    have hdrop : x.2.2.2.2.drop j = q :: x.2.2.2.2.drop (j + 1) := by
      rw [List.drop_eq_getElem_cons hjl]
      rw [List.getElem?_eq_getElem hjl] at hq
      rw [Option.some.inj hq]
    have hcons : nOKL F x.2.2.1 (x.2.2.2.2.drop j) ↔ nOK F x.2.2.1 q ∧ nOKL F x.2.2.1 (x.2.2.2.2.drop (j + 1)) := by
      rw [hdrop, ← nOKL_1 (q := q), ← nOKL_a]; rfl
    obtain ⟨c1, c2, c3, c4, c5⟩ := M.2.2.2.2.2 j q hq
    have hP : PT 7 0 x.2.2.2.2 := w.2.2.2.2.2.1.resolve_left (fun h2 => by rw [h2] at hjl; simp at hjl)
    obtain ⟨g1, g2, _⟩ := PT_q hP q (List.mem_of_getElem? hq)
    have hq127 : q.1 < 127 := by
      rcases g2 with e | e | e | e | e
      · omega
      · omega
      · omega
      · exact (opS_ne (Or.inl e)).2.2.2.2.2
      · omega
    have y1 : (nI q.1 = 1) ↔ q.1 = 1 := by rw [iL 1, nI_eq (by omega) (by omega)]
    have y2 : (nI q.1 = 2) ↔ q.1 = 2 := by rw [iL 2, nI_eq (by omega) (by omega)]
    have hin : vp_in (nI (32 * k + j)) 544 := nI_in (by omega) (by omega)
    obtain ⟨rk1, rk2⟩ := MF_rp h hk
    have erk : rp F k = x.2.2.1 := by unfold rp; rw [hx]
    rw [erk] at rk1 rk2
    rw [La_X8_named_5_r, S_La_X8_named_5, hcons]
    simp only [nI_clamp (show k < 2 ^ 31 by omega), nI_clamp (show 32 * k + j < 2 ^ 31 by omega), M.2.2.2.2.1, ee, if_neg zl, c1, c2, y1, y2, nI_1, rk1, nI01 rk2, h.2.2.1]
    rw [show 32 * k + j + 1 = 32 * k + (j + 1) by omega]
    by_cases hn : q.1 = 1 ∨ q.1 = 2
    · obtain ⟨f1, f2⟩ := find_M (ht := ht) (it := it) (dyn := dyn) h (g1 hn) rfl
      rw [f1]
      rcases fnd_b (F := F) (nm := q.2.1) F.length 0 with ⟨e, hno⟩ | ⟨g, _, hg, hk0, hnm2, e⟩
      · have hnok : ¬ nOK F x.2.2.1 q := by
          intro h2
          obtain ⟨g, e2, hg, _⟩ := h2 hn
          rw [e] at e2
          exact nI_ne1 (by omega) e2.symm
        have zn : (-1 : Int32) < 0 := by decide
        rw [e]
        rcases hn with e1 | e1
        · simp only [if_pos e1, if_pos zn]
          exact ⟨⟨hin1, fun _ => ⟨hin, fun _ => ⟨hin, f2, fun h => absurd zn h⟩, fun h => absurd e1 h⟩⟩, fun h => absurd h.1 hnok, fun _ => trivial⟩
        · have e0 : ¬ q.1 = 1 := by omega
          simp only [if_neg e0, if_pos e1, if_pos zn]
          exact ⟨⟨hin1, fun _ => ⟨hin, fun h => absurd h e0, fun _ => ⟨hin, fun _ => ⟨hin, f2, fun h => absurd zn h⟩, fun h => absurd e1 h⟩⟩⟩, fun h => absurd h.1 hnok, fun _ => trivial⟩
      · have hg : g < F.length := by omega
        have zn : ¬ nI g < 0 := by rw [iL 0, nI_ltI (by omega) (by omega)]; omega
        obtain ⟨rg1, rg2⟩ := MF_rp h hg
        have hin3 : vp_in (nI g) 17 := nI_in (by omega) (by omega)
        rw [e]
        have hok : nOK F x.2.2.1 q ↔ (q.1 = 2 → rp F g = 1) ∧ (q.1 = 1 → rp F g = 1 → x.2.2.1 = 1) := by
          constructor
          · intro h2
            obtain ⟨g', e2, hg', _, a, b⟩ := h2 hn
            rw [e] at e2
            obtain rfl : g = g' := (nI_eq (by omega) (by omega)).mp e2
            exact ⟨a, b⟩
          · rintro ⟨a, b⟩ _
            exact ⟨g, e, hg, hk0, a, b⟩
        rw [hok]
        simp only [nI_clamp (show g < 2 ^ 31 by omega), rg1, nI01 rg2, if_neg zn]
        rcases hn with e1 | e1
        · have e2 : ¬ q.1 = 2 := by omega
          simp only [if_pos e1, if_neg e2]
          by_cases hr : rp F g = 0
          · simp only [if_pos hr]
            refine ⟨⟨hin1, fun _ => ⟨hin, fun _ => ⟨hin, f2, fun _ => ⟨hin, fun h => absurd h e2, fun _ => ⟨hin, hin3, fun _ => i1, fun h => absurd hr h⟩⟩⟩, fun h => absurd e1 h⟩⟩, fun h => i2 h.2, fun h => i3 fun h2 => h ⟨⟨fun h => absurd h e2, fun _ h => by omega⟩, h2⟩⟩
          · simp only [if_neg hr]
            by_cases hx0 : x.2.2.1 = 0
            · simp only [if_pos hx0]
              refine ⟨⟨hin1, fun _ => ⟨hin, fun _ => ⟨hin, f2, fun _ => ⟨hin, fun h => absurd h e2, fun _ => ⟨hin, hin3, fun h => absurd h hr, fun _ => ⟨hin1, fun h => absurd hx0 h⟩⟩⟩⟩, fun h => absurd e1 h⟩⟩, fun h => ?_, fun _ => trivial⟩
              have := h.1.2 e1 (by omega)
              omega
            · simp only [if_neg hx0]
              refine ⟨⟨hin1, fun _ => ⟨hin, fun _ => ⟨hin, f2, fun _ => ⟨hin, fun h => absurd h e2, fun _ => ⟨hin, hin3, fun h => absurd h hr, fun _ => ⟨hin1, fun _ => i1⟩⟩⟩⟩, fun h => absurd e1 h⟩⟩, fun h => i2 h.2, fun h => i3 fun h2 => h ⟨⟨fun h => absurd h e2, fun _ _ => by omega⟩, h2⟩⟩
        · have e0 : ¬ q.1 = 1 := by omega
          simp only [if_pos e1, if_neg e0]
          by_cases hr : rp F g = 0
          · simp only [if_pos hr]
            refine ⟨⟨hin1, fun _ => ⟨hin, fun h => absurd h e0, fun _ => ⟨hin, fun _ => ⟨hin, f2, fun _ => ⟨hin, hin3, fun h => absurd hr h⟩⟩, fun h => absurd e1 h⟩⟩⟩, fun h => ?_, fun _ => trivial⟩
            have := h.1.1 e1
            omega
          · simp only [if_neg hr]
            refine ⟨⟨hin1, fun _ => ⟨hin, fun h => absurd h e0, fun _ => ⟨hin, fun _ => ⟨hin, f2, fun _ => ⟨hin, hin3, fun _ => ⟨hin, i1⟩⟩⟩, fun h => absurd e1 h⟩⟩⟩, fun h => i2 h.2, fun h => i3 fun h2 => h ⟨⟨fun _ => by omega, fun h => absurd h e0⟩, h2⟩⟩
    · have e0 : ¬ q.1 = 1 := fun h => hn (Or.inl h)
      have e2 : ¬ q.1 = 2 := fun h => hn (Or.inr h)
      simp only [if_neg e0, if_neg e2]
      refine ⟨⟨hin1, fun _ => ⟨hin, fun h => absurd h e0, fun _ => ⟨hin, fun h => absurd h e2, fun _ => i1⟩⟩⟩, fun h => i2 h.2, fun h => i3 fun h2 => h ⟨fun h => absurd h hn, h2⟩⟩
theorem named_M (h : MF F R I A J) {k : Nat} {x : aItem} (hx : F[k]? = some x) : S_X8_named ht I A J it dyn (nI k) ∧ (nOKL F x.2.2.1 x.2.2.2.2 → L_X8_named_r ht I A J it dyn (nI k) = 1) ∧ (¬ nOKL F x.2.2.1 x.2.2.2.2 → L_X8_named_r ht I A J it dyn (nI k) = 0) := by
  have hlen := (h.1.2 k x hx).2.2.2.2.2.2
  have := nm_M (ht := ht) (it := it) (dyn := dyn) h hx x.2.2.2.2.length 70 0 (by omega) (by omega)
  have e : (32 : Int32) * nI k = nI (32 * k + 0) := by rw [iL 32, nI_mul]; rfl
  unfold S_X8_named L_X8_named_r
  rw [e]
  simpa using this
theorem clo_M (h : MF F R I A J) : ∀ (m n k c : Nat), k + m = F.length → m < n → c ≤ 1 → S_Lb_X8_close_4 n ht I A J it dyn (nI c) (nI k) ∧ ((c = 1 ∧ ∀ (j : Nat) (x : aItem), k ≤ j → F[j]? = some x → nOKL F x.2.2.1 x.2.2.2.2) → Lb_X8_close_4_v1 n ht I A J it dyn (nI c) (nI k) = 1) ∧ (¬ (c = 1 ∧ ∀ (j : Nat) (x : aItem), k ≤ j → F[j]? = some x → nOKL F x.2.2.1 x.2.2.2.2) → Lb_X8_close_4_v1 n ht I A J it dyn (nI c) (nI k) = 0) := by
  have hl := h.1.1
  intro m
  induction m with
  | zero =>
    intro n k c hm hn hc
    obtain ⟨n, rfl⟩ : ∃ n', n = n' + 1 := ⟨n - 1, by omega⟩
    have zl : nI F.length ≤ nI k := by rw [nI_leI (by omega) (by omega)]; omega
    rw [S_Lb_X8_close_4, Lb_X8_close_4_v1, h.2.2.1]
    simp only [if_pos zl]
    refine ⟨fun h => absurd zl h, fun h => by rw [h.1]; rfl, fun h => ?_⟩
    have : c = 0 := Classical.byContradiction fun h2 => h ⟨by omega, fun j x hj hx => by have := F_lt hx; omega⟩
    rw [this]; rfl
  | succ m ih =>
    intro n k c hm hn hc
    obtain ⟨n, rfl⟩ : ∃ n', n = n' + 1 := ⟨n - 1, by omega⟩
    have zl : ¬ nI F.length ≤ nI k := by rw [nI_leI (by omega) (by omega)]; omega
    obtain ⟨x, hx⟩ := F_some (F := F) (k := k) (by omega)
    have w := h.1.2 k x hx
    have M := h.2.1 k x hx
    have hin : vp_in (nI k) 17 := nI_in (by omega) (by omega)
    obtain ⟨n1, n2, n3⟩ := named_M (ht := ht) (it := it) (dyn := dyn) h hx
    have y2 : (nI x.1 = 2) ↔ x.1 = 2 := by have := w.1; rw [iL 2, nI_eq (by omega) (by omega)]
    rw [S_Lb_X8_close_4, Lb_X8_close_4_v1, h.2.2.1]
    simp only [if_neg zl, nI_clamp (show k < 2 ^ 31 by omega), M.1, y2, nI01 hc, nI_1]
    -- what the flag is behind this item
    have key : ∃ c' : Nat, c' ≤ 1 ∧ (if c = 0 then (0 : Int32) else (if x.1 = 2 then 1 else (if L_X8_named_r ht I A J it dyn (nI k) = 0 then 0 else 1))) = nI c' ∧ (c' = 1 ↔ c = 1 ∧ nOKL F x.2.2.1 x.2.2.2.2) := by
      by_cases h0 : c = 0
      · exact ⟨0, by omega, by rw [if_pos h0]; rfl, by omega⟩
      · rw [if_neg h0]
        by_cases h2 : x.1 = 2
        · refine ⟨1, by omega, by rw [if_pos h2]; rfl, fun _ => ⟨by omega, ?_⟩, fun _ => rfl⟩
          rw [(w.2.2.2.1 h2).2.1]
          intro q hq
          simp at hq
        · rw [if_neg h2]
          by_cases hok : nOKL F x.2.2.1 x.2.2.2.2
          · exact ⟨1, by omega, by rw [n2 hok]; rfl, fun _ => ⟨by omega, hok⟩, fun _ => rfl⟩
          · refine ⟨0, by omega, by rw [n3 hok]; rfl, fun h => by omega, fun h => absurd h.2 hok⟩
    obtain ⟨c', hc', e, hcc⟩ := key
    rw [e]
    obtain ⟨i1, i2, i3⟩ := ih n (k + 1) c' (by omega) (by omega) hc'
    have hiff : (c' = 1 ∧ ∀ (j : Nat) (x : aItem), k + 1 ≤ j → F[j]? = some x → nOKL F x.2.2.1 x.2.2.2.2) ↔ (c = 1 ∧ ∀ (j : Nat) (x : aItem), k ≤ j → F[j]? = some x → nOKL F x.2.2.1 x.2.2.2.2) := by
      rw [hcc]
      constructor
      · rintro ⟨⟨a, b⟩, d⟩
        refine ⟨a, fun j y hj hy => ?_⟩
        by_cases ej : j = k
        · subst ej; cases hx.symm.trans hy; exact b
        · exact d j y (by omega) hy
      · rintro ⟨a, d⟩
        exact ⟨⟨a, d k x (by omega) hx⟩, fun j y hj hy => d j y (by omega) hy⟩
    rw [hiff] at i2 i3
    exact ⟨fun _ => ⟨fun _ => ⟨hin, fun _ => n1⟩, i1⟩, i2, i3⟩
theorem closeG_M (h : MF F R I A J) : S_Lb_X8_close_4 70 ht I A J it dyn 1 0 ∧ (nmOK F → Lb_X8_close_4_v1 70 ht I A J it dyn 1 0 = 1) ∧ (¬ nmOK F → Lb_X8_close_4_v1 70 ht I A J it dyn 1 0 = 0) := by
  obtain ⟨a, b, c⟩ := clo_M (ht := ht) (it := it) (dyn := dyn) h F.length 70 0 1 (by omega) (by have := h.1.1; omega) (by omega)
  exact ⟨a, fun hh => b ⟨rfl, fun j x _ hx => hh j x hx⟩, fun hh => c fun h2 => hh fun j x hx => h2.2 j x (by omega) hx⟩
end MN
