/-! WHAT AN EXPRESSION IS WORTH: the reference -/
theorem PT_idx {n : Nat} : ∀ {P : Nat} {l : List aPart}, PT n P l → ∀ (j : Nat) (q : aPart), l[j]? = some q → (opS q.1 ∨ q.1 = 63) → q.2.1 < P + j ∧ q.2.2.1 < P + j ∧ (q.1 = 63 → q.2.2.2.1 < P + j) := by
  induction n with
  | zero => intro P l h; exact absurd h id
  | succ n ih =>
    intro P l h j q hj hq
    rcases h with ⟨v, hv, rfl⟩ | ⟨o, nm, ho, hn1, hn2, rfl⟩ | ⟨s, l1, l2, hs, h1, h2, rfl⟩ | ⟨l1, l2, l3, h1, h2, h3, rfl⟩
    · exfalso
      cases j with
      | zero => simp at hj; subst hj; unfold opS at hq; simp at hq
      | succ j => simp at hj
    · exfalso
      cases j with
      | zero => simp at hj; subst hj; unfold opS at hq; simp only at hq; omega
      | succ j => simp at hj
    · have e1 := PT_ne h1
      have e2 := PT_ne h2
      by_cases c1 : j < l1.length
      · rw [List.append_assoc, List.getElem?_append_left c1] at hj
        exact ih h1 j q hj hq
      · by_cases c2 : j < l1.length + l2.length
        · rw [List.getElem?_append_left (by simp; omega), List.getElem?_append_right (by omega)] at hj
          have := ih h2 (j - l1.length) q hj hq
          rw [show P + l1.length + (j - l1.length) = P + j by omega] at this
          exact this
        · rw [List.getElem?_append_right (by simp; omega)] at hj
          have hj0 : j - (l1 ++ l2).length = 0 := Classical.byContradiction fun h => by
            rw [List.getElem?_eq_none (by simp only [List.length_singleton]; omega)] at hj
            cases hj
          rw [hj0] at hj
          simp at hj
          subst hj
          have hs2 := hs
          unfold opS at hs2
          refine ⟨by simp only; omega, by simp only; omega, fun h => by simp only at h; omega⟩
    · have e1 := PT_ne h1
      have e2 := PT_ne h2
      have e3 := PT_ne h3
      by_cases c1 : j < l1.length
      · rw [List.append_assoc, List.append_assoc, List.getElem?_append_left c1] at hj
        exact ih h1 j q hj hq
      · by_cases c2 : j < l1.length + l2.length
        · rw [List.append_assoc, List.getElem?_append_left (by simp; omega), List.getElem?_append_right (by omega)] at hj
          have := ih h2 (j - l1.length) q hj hq
          rw [show P + l1.length + (j - l1.length) = P + j by omega] at this
          exact this
        · by_cases c3 : j < l1.length + l2.length + l3.length
          · rw [List.getElem?_append_left (by simp; omega), List.getElem?_append_right (by simp; omega)] at hj
            have := ih h3 (j - (l1 ++ l2).length) q hj hq
            rw [show P + l1.length + l2.length + (j - (l1 ++ l2).length) = P + j by simp; omega] at this
            exact this
          · rw [List.getElem?_append_right (by simp; omega)] at hj
            have hj0 : j - (l1 ++ l2 ++ l3).length = 0 := Classical.byContradiction fun h => by
              rw [List.getElem?_eq_none (by simp only [List.length_singleton]; omega)] at hj
              cases hj
            rw [hj0] at hj
            simp at hj
            subst hj
            refine ⟨by simp only; omega, by simp only; omega, fun _ => by simp only; omega⟩
section WM
variable {ht : Nat} {F : List aItem} {R : Nat} {I : Nat → Int32} {it : Nat → Option Nat} {dyn : fsH} {oc : Nat → Int64}
def OCA (oc : Nat → Int64) (A : Nat → Nat → Int32) (J : Nat → Nat → Int64) : Prop := ∀ u : Nat, u < 64 → OC (oc u) (J 30 u) (A 31 u)
theorem MF.cg {A A' : Nat → Nat → Int32} {J J' : Nat → Nat → Int64} {I' : Nat → Int32} (h : MF F R I A J) (hA : ∀ n : Nat, 16 ≤ n → n ≤ 24 → A' n = A n) (hJ : J' 25 = J 25) (h13 : I' 13 = I 13) (h11 : I' 11 = I 11) : MF F R I' A' J' :=
  ⟨h.1, fun k x hx => by
    obtain ⟨b1, b2, b3, b4, b5, b6⟩ := h.2.1 k x hx
    refine ⟨by rw [hA 16 (by decide) (by decide)]; exact b1, fun hh => by rw [hA 17 (by decide) (by decide)]; exact b2 hh, by rw [hA 18 (by decide) (by decide)]; exact b3, fun hh => by rw [hA 19 (by decide) (by decide)]; exact b4 hh, by rw [hA 20 (by decide) (by decide)]; exact b5, fun j q hj => ?_⟩
    rw [hA 21 (by decide) (by decide), hA 22 (by decide) (by decide), hA 23 (by decide) (by decide), hA 24 (by decide) (by decide), hJ]
    exact b6 j q hj, by rw [h13]; exact h.2.2.1, by rw [h11]; exact h.2.2.2.1, h.2.2.2.2⟩
theorem sum_M {A : Nat → Nat → Int32} {J : Nat → Nat → Int64} (h : MF F R I A J) (ho : OCA oc A J) {g : Nat} (hg : g < 16) (v1 : Int32) : ∀ (m n i : Nat) (s : Int64) (b : Int32), i + m = R → m < n → S_Lb_X8_sumUp_8 n ht I A J it dyn v1 (nI g) s b (nI i) ∧ (b = 0 → OC (totf oc m (4 * g + i) s) (cmV (Lb_X8_sumUp_8_v3 n ht I A J it dyn v1 (nI g) s b (nI i)) (Lb_X8_sumUp_8_v5 n ht I A J it dyn v1 (nI g) s b (nI i))) (cmF (Lb_X8_sumUp_8_v3 n ht I A J it dyn v1 (nI g) s b (nI i)) (Lb_X8_sumUp_8_v5 n ht I A J it dyn v1 (nI g) s b (nI i)))) ∧ (¬ b = 0 → Lb_X8_sumUp_8_v5 n ht I A J it dyn v1 (nI g) s b (nI i) = b) := by
  have hR := h.2.2.2.2
  intro m
  induction m with
  | zero =>
    intro n i s b hm hn
    obtain ⟨n, rfl⟩ : ∃ n', n = n' + 1 := ⟨n - 1, by omega⟩
    have zl : nI R ≤ nI i := by rw [nI_leI (by omega) (by omega)]; omega
    simp only [Lb_X8_sumUp_8_v3, Lb_X8_sumUp_8_v5, S_Lb_X8_sumUp_8, h.2.2.2.1, if_pos zl]
    refine ⟨fun h => absurd zl h, fun hb => ?_, fun _ => trivial⟩
    subst hb
    exact lim_C (ht := 0) (I := fun _ => 0) (A := fun _ _ => 0) (J := fun _ _ => 0) (it := fun _ => none) (dyn := []) s
  | succ m ih =>
    intro n i s b hm hn
    obtain ⟨n, rfl⟩ : ∃ n', n = n' + 1 := ⟨n - 1, by omega⟩
    have zl : ¬ nI R ≤ nI i := by rw [nI_leI (by omega) (by omega)]; omega
    have ec : (4 : Int32) * nI g + nI i = nI (4 * g + i) := by rw [iL 4, nI_mul, nI_add]
    have hin : vp_in (nI (4 * g + i)) 64 := nI_in (by omega) (by omega)
    have oi := ho (4 * g + i) (by omega)
    simp only [Lb_X8_sumUp_8_v3, Lb_X8_sumUp_8_v5, S_Lb_X8_sumUp_8, h.2.2.2.1, if_neg zl, ec, nI_clamp (show 4 * g + i < 2 ^ 31 by omega), nI_1]
    by_cases hb : b = 0
    · subst hb
      simp only [if_true]
      obtain ⟨i1, i2, i3⟩ := ih n (i + 1) (s + J 30 (4 * g + i)) (A 31 (4 * g + i)) (by omega) (by omega)
      refine ⟨fun _ => ⟨fun _ => hin, hin, i1⟩, fun _ => ?_, fun h => absurd trivial h⟩
      unfold totf
      by_cases hf : A 31 (4 * g + i) = 0
      · rw [if_neg (fun h2 => (OC_F oi).mp h2 hf)]
        have := i2 hf
        rw [hf] at oi
        rw [(OC_0 oi).1]
        exact this
      · rw [if_pos ((OC_F oi).mpr hf), i3 hf]
        rcases oi with ⟨e, _⟩ | ⟨k, k1, k2, e1, e2, e3⟩
        · exact absurd e hf
        · have hc : ∀ z : Int64, cmF z (A 31 (4 * g + i)) = A 31 (4 * g + i) ∧ cmV z (A 31 (4 * g + i)) = 0 := fun z => by
            have : cmF z (A 31 (4 * g + i)) = A 31 (4 * g + i) := by unfold cmF; rw [if_neg hf]
            exact ⟨this, by unfold cmV; rw [this, if_neg hf]⟩
          rw [(hc _).1, (hc _).2]
          exact Or.inr ⟨k, k1, k2, e1, rfl, e3⟩
    · simp only [if_neg hb]
      obtain ⟨i1, i2, i3⟩ := ih n (i + 1) (s + J 30 (4 * g + i)) b (by omega) (by omega)
      exact ⟨fun _ => ⟨fun _ => hin, hin, i1⟩, fun h => absurd h hb, fun _ => i3 hb⟩
theorem wk_M {k r : Nat} {x : aItem} (hx : F[k]? = some x) (hok : nOKL F x.2.2.1 x.2.2.2.2) (hr : r < 4) : ∀ (m n j : Nat) (A : Nat → Nat → Int32) (J : Nat → Nat → Int64), j + m = x.2.2.2.2.length → m < n → MF F R I A J → OCA oc A J → (∀ i : Nat, i < j → OC ((evs F R oc r (x.2.2.2.2.take j) []).getD i 0) (J 35 i) (A 36 i)) →
    S_Lb_X8_work_2 n ht I A J it dyn (nI k) (nI r) (nI j) ∧ (∀ a : Nat, a ≠ 36 → (Lb_X8_work_2_A n ht I A J it dyn (nI k) (nI r) (nI j)) a = A a) ∧ (∀ a : Nat, a ≠ 35 → (Lb_X8_work_2_J n ht I A J it dyn (nI k) (nI r) (nI j)) a = J a) ∧ (∀ i : Nat, i < x.2.2.2.2.length → OC ((evs F R oc r x.2.2.2.2 []).getD i 0) ((Lb_X8_work_2_J n ht I A J it dyn (nI k) (nI r) (nI j)) 35 i) ((Lb_X8_work_2_A n ht I A J it dyn (nI k) (nI r) (nI j)) 36 i)) := by
  intro m
  induction m with
  | zero =>
    intro n j A J hm hn h ho hP
    obtain ⟨n, rfl⟩ : ∃ n', n = n' + 1 := ⟨n - 1, by omega⟩
    have hl := h.1.1
    have hk := F_lt hx
    have w := h.1.2 k x hx
    have M := h.2.1 k x hx
    have hlen := w.2.2.2.2.2.2
    have hin1 : vp_in (nI k) 17 := nI_in (by omega) (by omega)
    have zl : nI x.2.2.2.2.length ≤ nI j := by rw [nI_leI (by omega) (by omega)]; omega
    rw [Lb_X8_work_2_A, Lb_X8_work_2_J, S_Lb_X8_work_2]
    simp only [nI_clamp (show k < 2 ^ 31 by omega), M.2.2.2.2.1, if_pos zl]
    rw [List.take_of_length_le (by omega)] at hP
    exact ⟨⟨hin1, fun h => absurd zl h⟩, fun _ _ => trivial, fun _ _ => trivial, fun i hi => hP i (by omega)⟩
  | succ m ih =>
    intro n j A J hm hn h ho hP
    obtain ⟨n, rfl⟩ : ∃ n', n = n' + 1 := ⟨n - 1, by omega⟩
    have hl := h.1.1
    have hk := F_lt hx
    have w := h.1.2 k x hx
    have M := h.2.1 k x hx
    have hlen := w.2.2.2.2.2.2
    have hR := h.2.2.2.2
    have hin1 : vp_in (nI k) 17 := nI_in (by omega) (by omega)
    have zl : ¬ nI x.2.2.2.2.length ≤ nI j := by rw [nI_leI (by omega) (by omega)]; omega
    obtain ⟨q, hq⟩ : ∃ q, x.2.2.2.2[j]? = some q := ⟨_, List.getElem?_eq_getElem (show j < x.2.2.2.2.length by omega)⟩
    obtain ⟨c1, c2, c3, c4, c5⟩ := M.2.2.2.2.2 j q hq
    obtain ⟨g1, g2, g3, hq127⟩ := q127 w hq
    have hPT : PT 7 0 x.2.2.2.2 := w.2.2.2.2.2.1.resolve_left (fun h2 => by rw [h2] at hq; simp at hq)
    have y0 : (nI q.1 = 0) ↔ q.1 = 0 := by rw [iL 0, nI_eq (by omega) (by omega)]
    have y1 : (nI q.1 = 1) ↔ q.1 = 1 := by rw [iL 1, nI_eq (by omega) (by omega)]
    have y2 : (nI q.1 = 2) ↔ q.1 = 2 := by rw [iL 2, nI_eq (by omega) (by omega)]
    have y63 : (nI q.1 = 63) ↔ q.1 = 63 := by rw [iL 63, nI_eq (by omega) (by omega)]
    have ee : (32 : Int32) * nI k + nI j = nI (32 * k + j) := by rw [iL 32, nI_mul, nI_add]
    have hin : vp_in (nI (32 * k + j)) 544 := nI_in (by omega) (by omega)
    have htake := take_s hq
    have hlt : (x.2.2.2.2.take j).length = j := by rw [List.length_take]; omega
    have hevl : (evs F R oc r (x.2.2.2.2.take j) []).length = j := by rw [evs_l, hlt]; simp
    -- one more part
    have step : ∀ (v : Int64) (f : Int32), OC (pv F R oc r q (evs F R oc r (x.2.2.2.2.take j) [])) v f → S_Lb_X8_work_2 n ht I (va_up A 36 (upd (A 36) j f)) (va_up J 35 (vp_updL (J 35) j v)) it dyn (nI k) (nI r) (nI (j + 1)) ∧ (∀ a : Nat, a ≠ 36 → (Lb_X8_work_2_A n ht I (va_up A 36 (upd (A 36) j f)) (va_up J 35 (vp_updL (J 35) j v)) it dyn (nI k) (nI r) (nI (j + 1))) a = A a) ∧ (∀ a : Nat, a ≠ 35 → (Lb_X8_work_2_J n ht I (va_up A 36 (upd (A 36) j f)) (va_up J 35 (vp_updL (J 35) j v)) it dyn (nI k) (nI r) (nI (j + 1))) a = J a) ∧ (∀ i : Nat, i < x.2.2.2.2.length → OC ((evs F R oc r x.2.2.2.2 []).getD i 0) ((Lb_X8_work_2_J n ht I (va_up A 36 (upd (A 36) j f)) (va_up J 35 (vp_updL (J 35) j v)) it dyn (nI k) (nI r) (nI (j + 1))) 35 i) ((Lb_X8_work_2_A n ht I (va_up A 36 (upd (A 36) j f)) (va_up J 35 (vp_updL (J 35) j v)) it dyn (nI k) (nI r) (nI (j + 1))) 36 i)) := by
      intro v f hov
      have hA : ∀ a : Nat, a ≠ 36 → (va_up A 36 (upd (A 36) j f)) a = A a := fun a ha => by simp [va_up, ha]
      have hJ : ∀ a : Nat, a ≠ 35 → (va_up J 35 (vp_updL (J 35) j v)) a = J a := fun a ha => by simp [va_up, ha]
      obtain ⟨i1, i2, i3, i4⟩ := ih n (j + 1) (va_up A 36 (upd (A 36) j f)) (va_up J 35 (vp_updL (J 35) j v)) (by omega) (by omega) (h.cg (fun a _ _ => hA a (by omega)) (hJ 25 (by decide)) rfl rfl) (fun u hu => by rw [hA 31 (by decide), hJ 30 (by decide)]; exact ho u hu) (fun i hi => by
        rw [htake, evs_a, evs_1]
        by_cases e : i = j
        · subst e
          rw [getD_last' hevl]
          simpa [va_up, upd, vp_updL] using hov
        · rw [List.getD_eq_getElem?_getD, List.getElem?_append_left (by omega), ← List.getD_eq_getElem?_getD]
          have := hP i (by omega)
          simpa [va_up, upd, vp_updL, e] using this)
      exact ⟨i1, fun a ha => by rw [i2 a ha, hA a ha], fun a ha => by rw [i3 a ha, hJ a ha], i4⟩
    have hj32 : j < 32 := by omega
    have cA := fun (z : Int64) (f : Int32) => (come_M (ht := ht) (I := I) (A := A) (J := J) (it := it) (dyn := dyn) hj32 z f).1
    have cJ := fun (z : Int64) (f : Int32) => (come_M (ht := ht) (I := I) (A := A) (J := J) (it := it) (dyn := dyn) hj32 z f).2.1
    have cS := fun (z : Int64) (f : Int32) => (come_M (ht := ht) (I := I) (A := A) (J := J) (it := it) (dyn := dyn) hj32 z f).2.2
    rw [Lb_X8_work_2_A, Lb_X8_work_2_J, S_Lb_X8_work_2]
    simp only [nI_clamp (show k < 2 ^ 31 by omega), M.2.2.2.2.1, if_neg zl, ee, nI_clamp (show 32 * k + j < 2 ^ 31 by omega), c1, c2, c3, c4, c5, y0, y1, y2, y63, nI_1, h.2.2.1]
    by_cases h0 : q.1 = 0
    · have h1 : ¬ q.1 = 1 := by omega
      have h2 : ¬ q.1 = 2 := by omega
      simp only [if_pos h0, cA, cJ, cS]
      have hv := g3 h0
      have hov : OC (lN q.2.2.2.2) (lN q.2.2.2.2) 0 := OC_in (by rw [pk_lT (by omega)]; omega) (by rw [pk_lT (by omega)]; omega)
      obtain ⟨e1, e2⟩ := come_OC hov
      rw [e1, e2]
      obtain ⟨s1, s2, s3, s4⟩ := step (lN q.2.2.2.2) 0 (by unfold pv; rw [if_pos h0]; exact hov)
      exact ⟨⟨hin1, fun _ => ⟨hin, hin, ⟨fun h => absurd h h1, fun _ => ⟨hin, fun h => absurd h h2⟩⟩, hin, ⟨fun _ => ⟨hin, trivial⟩, fun h => absurd h0 h⟩, s1⟩⟩, s2, s3, s4⟩
    · simp only [if_neg h0]
      by_cases h1 : q.1 = 1
      · obtain ⟨f1, f2⟩ := find_M (ht := ht) (it := it) (dyn := dyn) h (g1 (Or.inl h1)) rfl
        obtain ⟨o1, o2, o3, o4, o5⟩ := nOK_g hl (hok q (List.mem_of_getElem? hq)) (Or.inl h1)
        obtain ⟨rg1, rg2⟩ := MF_rp h o2
        have hin3 : vp_in (nI (fg F q.2.1)) 17 := nI_in (by omega) (by omega)
        have ec : (4 : Int32) * nI (fg F q.2.1) + (if rp F (fg F q.2.1) = 0 then 0 else nI r) = nI (4 * fg F q.2.1 + (if rp F (fg F q.2.1) = 0 then 0 else r)) := by
          split
          · rw [iL 4, nI_mul, iL 0, nI_add]
          · rw [iL 4, nI_mul, nI_add]
        have h64 : 4 * fg F q.2.1 + (if rp F (fg F q.2.1) = 0 then 0 else r) < 64 := by split <;> omega
        have hin4 : vp_in (nI (4 * fg F q.2.1 + (if rp F (fg F q.2.1) = 0 then 0 else r))) 64 := nI_in (by omega) (by omega)
        simp only [if_pos h1, f1, o1, nI_clamp (show fg F q.2.1 < 2 ^ 31 by omega), rg1, nI01 rg2, ec, nI_clamp (show 4 * fg F q.2.1 + (if rp F (fg F q.2.1) = 0 then 0 else r) < 2 ^ 31 by omega), cA, cJ, cS]
        have hov := ho _ h64
        obtain ⟨e1, e2⟩ := come_OC hov
        rw [e1, e2]
        obtain ⟨s1, s2, s3, s4⟩ := step _ _ (show OC (pv F R oc r q (evs F R oc r (x.2.2.2.2.take j) [])) _ _ by unfold pv; rw [if_neg h0, if_pos h1]; exact hov)
        exact ⟨⟨hin1, fun _ => ⟨hin, hin, ⟨fun _ => f2, fun h => absurd h1 h⟩, hin, ⟨fun h => absurd h h0, fun _ => ⟨hin, fun _ => ⟨hin3, hin4, hin4, trivial⟩, fun h => absurd h1 h⟩⟩, s1⟩⟩, s2, s3, s4⟩
      · simp only [if_neg h1]
        by_cases h2 : q.1 = 2
        · obtain ⟨f1, f2⟩ := find_M (ht := ht) (it := it) (dyn := dyn) h (g1 (Or.inr h2)) rfl
          obtain ⟨o1, o2, o3, o4, o5⟩ := nOK_g hl (hok q (List.mem_of_getElem? hq)) (Or.inr h2)
          obtain ⟨t1, t2, _⟩ := sum_M (ht := ht) (it := it) (dyn := dyn) h ho (g := fg F q.2.1) (by omega) (nI j) R 70 0 0 0 (by omega) (by omega)
          have t2 := t2 rfl
          have t1 : S_Lb_X8_sumUp_8 70 ht I A J it dyn (nI j) (nI (fg F q.2.1)) 0 0 0 := t1
          have t2 : OC (totf oc R (4 * fg F q.2.1) 0) (cmV (Lb_X8_sumUp_8_v3 70 ht I A J it dyn (nI j) (nI (fg F q.2.1)) 0 0 0) (Lb_X8_sumUp_8_v5 70 ht I A J it dyn (nI j) (nI (fg F q.2.1)) 0 0 0)) (cmF (Lb_X8_sumUp_8_v3 70 ht I A J it dyn (nI j) (nI (fg F q.2.1)) 0 0 0) (Lb_X8_sumUp_8_v5 70 ht I A J it dyn (nI j) (nI (fg F q.2.1)) 0 0 0)) := t2
          unfold L_X8_sumUp_A L_X8_sumUp_J S_X8_sumUp
          simp only [if_pos h2, f1, o1, cA, cJ, cS]
          obtain ⟨s1, s2, s3, s4⟩ := step _ _ (show OC (pv F R oc r q (evs F R oc r (x.2.2.2.2.take j) [])) _ _ by unfold pv; rw [if_neg h0, if_neg h1, if_pos h2]; exact t2)
          exact ⟨⟨hin1, fun _ => ⟨hin, hin, ⟨fun h => absurd h h1, fun _ => ⟨hin, fun _ => f2⟩⟩, hin, ⟨fun h => absurd h h0, fun _ => ⟨hin, fun h => absurd h h1, fun _ => ⟨hin, fun _ => ⟨t1, trivial⟩, fun h => absurd h2 h⟩⟩⟩, s1⟩⟩, s2, s3, s4⟩
        · simp only [if_neg h2]
          have hop : opS q.1 ∨ q.1 = 63 := by
            rcases g2 with e | e | e | e | e
            · exact absurd e h0
            · exact absurd e h1
            · exact absurd e h2
            · exact Or.inl e
            · exact Or.inr e
          obtain ⟨d1, d2, d3⟩ := PT_idx hPT j q hq hop
          rw [Nat.zero_add] at d1 d2 d3
          have ia : vp_in (nI q.2.1) 32 := nI_in (by omega) (by omega)
          have ib : vp_in (nI q.2.2.1) 32 := nI_in (by omega) (by omega)
          have oa := hP q.2.1 d1
          have ob := hP q.2.2.1 d2
          by_cases h3 : q.1 = 63
          · have d3 := d3 h3
            have ic : vp_in (nI q.2.2.2.1) 32 := nI_in (by omega) (by omega)
            have occ := hP q.2.2.2.1 d3
            simp only [if_pos h3, nI_clamp (show q.2.1 < 2 ^ 31 by omega), cA, cJ, cS, lg_cmp_eq]
            generalize evs F R oc r (x.2.2.2.2.take j) [] = rs at *
            by_cases fa : A 36 q.2.1 = 0
            · simp only [if_pos fa]
              have oa0 := oa
              rw [fa] at oa0
              obtain ⟨ea, _, _⟩ := OC_0 oa0
              have hnf : ¬ 1000000000000000 < (rs.getD q.2.1 0).toInt := fun h2 => (OC_F oa).mp h2 fa
              by_cases hz : J 35 q.2.1 = 0
              · simp only [if_pos hz, nI_clamp (show q.2.2.2.1 < 2 ^ 31 by omega)]
                obtain ⟨e1, e2⟩ := come_OC occ
                rw [e1, e2]
                obtain ⟨s1, s2, s3, s4⟩ := step _ _ (show OC (pv F R oc r q rs) _ _ by unfold pv; rw [if_neg h0, if_neg h1, if_neg h2, if_pos h3, if_neg hnf, if_pos (by rw [ea]; exact hz)]; exact occ)
                exact ⟨⟨hin1, fun _ => ⟨hin, hin, ⟨fun h => absurd h h1, fun _ => ⟨hin, fun h => absurd h h2⟩⟩, hin, ⟨fun h => absurd h h0, fun _ => ⟨hin, fun h => absurd h h1, fun _ => ⟨hin, fun h => absurd h h2, fun _ => ⟨hin, fun _ => ⟨ia, fun _ => ⟨ia, fun _ => hin, fun _ => hin⟩, ia, fun _ => ic, ic, trivial⟩, fun h => absurd h3 h⟩⟩⟩⟩, s1⟩⟩, s2, s3, s4⟩
              · simp only [if_neg hz, nI_clamp (show q.2.2.1 < 2 ^ 31 by omega)]
                obtain ⟨e1, e2⟩ := come_OC ob
                rw [e1, e2]
                obtain ⟨s1, s2, s3, s4⟩ := step _ _ (show OC (pv F R oc r q rs) _ _ by unfold pv; rw [if_neg h0, if_neg h1, if_neg h2, if_pos h3, if_neg hnf, if_neg (by rw [ea]; exact hz)]; exact ob)
                exact ⟨⟨hin1, fun _ => ⟨hin, hin, ⟨fun h => absurd h h1, fun _ => ⟨hin, fun h => absurd h h2⟩⟩, hin, ⟨fun h => absurd h h0, fun _ => ⟨hin, fun h => absurd h h1, fun _ => ⟨hin, fun h => absurd h h2, fun _ => ⟨hin, fun _ => ⟨ia, fun _ => ⟨ia, fun _ => hin, fun _ => hin⟩, ia, fun _ => ib, ib, trivial⟩, fun h => absurd h3 h⟩⟩⟩⟩, s1⟩⟩, s2, s3, s4⟩
            · simp only [if_neg fa, nI_clamp (show q.2.1 < 2 ^ 31 by omega)]
              have hyf : 1000000000000000 < (rs.getD q.2.1 0).toInt := (OC_F oa).mpr fa
              have hv0 : J 35 q.2.1 = 0 := by
                rcases oa with ⟨e, _⟩ | ⟨_, _, _, _, e, _⟩
                · exact absurd e fa
                · exact e
              obtain ⟨e1, e2⟩ := come_OC oa
              rw [hv0] at e1 e2 oa
              rw [e1, e2]
              obtain ⟨s1, s2, s3, s4⟩ := step _ _ (show OC (pv F R oc r q rs) _ _ by unfold pv; rw [if_neg h0, if_neg h1, if_neg h2, if_pos h3, if_pos hyf]; exact oa)
              exact ⟨⟨hin1, fun _ => ⟨hin, hin, ⟨fun h => absurd h h1, fun _ => ⟨hin, fun h => absurd h h2⟩⟩, hin, ⟨fun h => absurd h h0, fun _ => ⟨hin, fun h => absurd h h1, fun _ => ⟨hin, fun h => absurd h h2, fun _ => ⟨hin, fun _ => ⟨ia, fun h => absurd h fa, ia, fun h => absurd h fa, ia, trivial⟩, fun h => absurd h3 h⟩⟩⟩⟩, s1⟩⟩, s2, s3, s4⟩
          · simp only [if_neg h3]
            have hs : opS q.1 := hop.resolve_right h3
            obtain ⟨v, f, w1, w2, w3, w4⟩ := worked_M (ht := ht) (I := I) (A := A) (J := J) (it := it) (dyn := dyn) hj32 (show q.2.1 < 32 by omega) (show q.2.2.1 < 32 by omega) hs oa ob
            rw [w3, w4]
            obtain ⟨s1, s2, s3, s4⟩ := step v f (by unfold pv; rw [if_neg h0, if_neg h1, if_neg h2, if_neg h3]; exact w1)
            exact ⟨⟨hin1, fun _ => ⟨hin, hin, ⟨fun h => absurd h h1, fun _ => ⟨hin, fun h => absurd h h2⟩⟩, hin, ⟨fun h => absurd h h0, fun _ => ⟨hin, fun h => absurd h h1, fun _ => ⟨hin, fun h => absurd h h2, fun _ => ⟨hin, fun h => absurd h h3, fun _ => ⟨hin, hin, w2⟩⟩⟩⟩⟩, s1⟩⟩, s2, s3, s4⟩
theorem work_M {A : Nat → Nat → Int32} {J : Nat → Nat → Int64} {k r : Nat} {x : aItem} (hx : F[k]? = some x) (hok : nOKL F x.2.2.1 x.2.2.2.2) (hr : r < 4) (hne : x.2.2.2.2 ≠ []) (h : MF F R I A J) (ho : OCA oc A J) :
    S_X8_work ht I A J it dyn (nI k) (nI r) ∧ L_X8_work_r ht I A J it dyn (nI k) (nI r) = nI (x.2.2.2.2.length - 1) ∧ x.2.2.2.2.length - 1 < 32 ∧ (∀ a : Nat, a ≠ 36 → (L_X8_work_A ht I A J it dyn (nI k) (nI r)) a = A a) ∧ (∀ a : Nat, a ≠ 35 → (L_X8_work_J ht I A J it dyn (nI k) (nI r)) a = J a) ∧ OC (val F R oc r x.2.2.2.2) ((L_X8_work_J ht I A J it dyn (nI k) (nI r)) 35 (x.2.2.2.2.length - 1)) ((L_X8_work_A ht I A J it dyn (nI k) (nI r)) 36 (x.2.2.2.2.length - 1)) := by
  have hl := h.1.1
  have hk := F_lt hx
  have w := h.1.2 k x hx
  have M := h.2.1 k x hx
  have hlen := w.2.2.2.2.2.2
  have hpos : 0 < x.2.2.2.2.length := List.length_pos_iff.mpr hne
  obtain ⟨a1, a2, a3, a4⟩ := wk_M (ht := ht) (it := it) (dyn := dyn) hx hok hr x.2.2.2.2.length 70 0 A J (by omega) (by omega) h ho (fun i hi => by omega)
  have hin1 : vp_in (nI k) 17 := nI_in (by omega) (by omega)
  refine ⟨⟨a1, hin1⟩, ?_, by omega, a2, a3, a4 _ (by omega)⟩
  unfold L_X8_work_r
  have : (Lb_X8_work_2_A 70 ht I A J it dyn (nI k) (nI r) 0) 20 = A 20 := a2 20 (by decide)
  rw [this, nI_clamp (by omega), M.2.2.2.2.1, iL 1, nI_subN (by omega)]
end WM
