/-! MESSAGES, COUNTS -/
section MG
variable {ht : Nat} {F : List aItem} {R : Nat} {I : Nat → Int32} {A : Nat → Nat → Int32} {J : Nat → Nat → Int64} {it : Nat → Option Nat} {dyn : fsH}
noncomputable def mrk (F : List aItem) (oc : Nat → Int64) (k m r : Nat) : List Nat := if kd F k = 1 then mrow oc k m r else []
theorem msg_25 (h : CF F R I it dyn) {k : Nat} (hk : k < F.length) (v1 : Int32) : ∀ (m n r b : Nat), r + m = rw1 F R k → m < n → b + (mrk F (J 6) k m r).length ≤ 64 →
    S_Lc_X7_message_25 n ht I A J it dyn v1 (nI b) (nI k) (nI r) ∧
    (∀ (i x : Nat), (mrk F (J 6) k m r)[i]? = some x → v1 = nI (b + i) → Lc_X7_message_25_f n ht I A J it dyn v1 (nI b) (nI k) (nI r) = true ∧ Lc_X7_message_25_r n ht I A J it dyn v1 (nI b) (nI k) (nI r) = nI x) ∧
    ((∀ i : Nat, i < (mrk F (J 6) k m r).length → v1 ≠ nI (b + i)) → Lc_X7_message_25_f n ht I A J it dyn v1 (nI b) (nI k) (nI r) = false ∧ Lc_X7_message_25_v2 n ht I A J it dyn v1 (nI b) (nI k) (nI r) = nI (b + (mrk F (J 6) k m r).length)) := by
  have hl := h.1.1
  have hR := h.2.2.2.2
  obtain ⟨_, _, q3, q4, _, q6⟩ := rep_C (ht := ht) (A := A) (J := J) h (show k < 2 ^ 31 by omega)
  intro m
  induction m with
  | zero =>
    intro n r b hm hn hb
    obtain ⟨n, rfl⟩ : ∃ n', n = n' + 1 := ⟨n - 1, by omega⟩
    have e0 : mrk F (J 6) k 0 r = [] := by unfold mrk; split <;> rfl
    have zl : nI (rw1 F R k) ≤ nI r := by rw [nI_leI (by omega) (by omega)]; omega
    simp only [S_Lc_X7_message_25, Lc_X7_message_25_f, Lc_X7_message_25_r, Lc_X7_message_25_v2, q3, if_pos zl, e0]
    exact ⟨⟨q4, fun h => absurd zl h⟩, fun i x hx => by simp at hx, fun _ => ⟨trivial, rfl⟩⟩
  | succ m ih =>
    intro n r b hm hn hb
    obtain ⟨n, rfl⟩ : ∃ n', n = n' + 1 := ⟨n - 1, by omega⟩
    have hr : r < rw1 F R k := by omega
    have zl : ¬ nI (rw1 F R k) ≤ nI r := by rw [nI_leI (by omega) (by omega)]; omega
    have z1 : ¬ (1 : Int32) = 0 := by decide
    obtain ⟨f1, f2, f3⟩ := fails_C (ht := ht) (A := A) (J := J) h hk hr
    by_cases hf : kd F k = 1 ∧ flo (J 6 (4 * k + r))
    · have em : mrk F (J 6) k (m + 1) r = (8 * k + r) :: mrk F (J 6) k m (r + 1) := by
        unfold mrk
        rw [if_pos hf.1, if_pos hf.1]
        show (@ite _ (flo (J 6 (4 * k + r))) (Classical.propDecidable _) [8 * k + r] []) ++ mrow (J 6) k m (r + 1) = _
        rw [if_pos hf.2]
        rfl
      rw [em] at hb ⊢
      simp only [List.length_cons] at hb ⊢
      obtain ⟨i1, i2, i3⟩ := ih n (r + 1) (b + 1) (by omega) (by omega) (by omega)
      have e8 : (8 : Int32) * nI k + nI r = nI (8 * k + r) := by rw [iL 8, nI_mul, nI_add]
      simp only [S_Lc_X7_message_25, Lc_X7_message_25_f, Lc_X7_message_25_r, Lc_X7_message_25_v2, q3, if_neg zl, f2 hf, if_neg z1, e8, nI_1]
      by_cases hv : nI b = v1
      · simp only [if_pos hv]
        refine ⟨⟨q4, fun _ => ⟨f1, fun hh => absurd hh z1, fun _ hh => absurd hv hh⟩⟩, fun i x hx he => ⟨trivial, ?_⟩, fun hh => absurd hv.symm (hh 0 (by omega))⟩
        have hi : i = 0 := by
          have hil := (List.getElem?_eq_some_iff.mp hx).1
          simp only [List.length_cons] at hil
          rw [← hv, nI_eq (by omega) (by omega)] at he
          omega
        subst hi
        simp at hx
        rw [hx]
      · simp only [if_neg hv]
        refine ⟨⟨q4, fun _ => ⟨f1, fun hh => absurd hh z1, fun _ _ => i1⟩⟩, fun i x hx he => ?_, fun hh => ?_⟩
        · cases i with
          | zero => exact absurd he.symm hv
          | succ i =>
            simp only [List.getElem?_cons_succ] at hx
            exact i2 i x hx (by rw [he]; congr 1; omega)
        · have := i3 (fun i hi => by have := hh (i + 1) (by omega); rwa [show b + (i + 1) = b + 1 + i by omega] at this)
          refine ⟨this.1, ?_⟩
          rw [this.2]; congr 1; omega
    · have em : mrk F (J 6) k (m + 1) r = mrk F (J 6) k m (r + 1) := by
        unfold mrk
        by_cases e : kd F k = 1
        · rw [if_pos e, if_pos e]
          show (@ite _ (flo (J 6 (4 * k + r))) (Classical.propDecidable _) [8 * k + r] []) ++ mrow (J 6) k m (r + 1) = _
          rw [if_neg (fun h2 => hf ⟨e, h2⟩)]
          rfl
        · rw [if_neg e, if_neg e]
      rw [em] at hb ⊢
      obtain ⟨i1, i2, i3⟩ := ih n (r + 1) b (by omega) (by omega) hb
      simp only [S_Lc_X7_message_25, Lc_X7_message_25_f, Lc_X7_message_25_r, Lc_X7_message_25_v2, q3, if_neg zl, f3 hf, if_true, nI_1]
      exact ⟨⟨q4, fun _ => ⟨f1, fun _ => i1, fun hh => absurd trivial hh⟩⟩, i2, i3⟩
theorem msg_11 (h : CF F R I it dyn) (v1 : Int32) : ∀ (m n k b : Nat), k + m = F.length → m < n → b + (mall F R (J 6) m k).length ≤ 64 →
    S_La_X7_message_11 n ht I A J it dyn v1 (nI b) (nI k) ∧
    (∀ (i x : Nat), (mall F R (J 6) m k)[i]? = some x → v1 = nI (b + i) → La_X7_message_11_r n ht I A J it dyn v1 (nI b) (nI k) = nI x) ∧
    ((∀ i : Nat, i < (mall F R (J 6) m k).length → v1 ≠ nI (b + i)) → La_X7_message_11_r n ht I A J it dyn v1 (nI b) (nI k) = if v1 = -1 then nI (b + (mall F R (J 6) m k).length) else -1) := by
  have hl := h.1.1
  have hR := h.2.2.2.2
  intro m
  induction m with
  | zero =>
    intro n k b hm hn hb
    obtain ⟨n, rfl⟩ : ∃ n', n = n' + 1 := ⟨n - 1, by omega⟩
    have e0 : mall F R (J 6) 0 k = [] := rfl
    have zl : nI F.length ≤ nI k := by rw [nI_leI (by omega) (by omega)]; omega
    simp only [S_La_X7_message_11, La_X7_message_11_r, h.2.2.1, if_pos zl, e0]
    exact ⟨fun h => absurd zl h, fun i x hx => by simp at hx, fun _ => rfl⟩
  | succ m ih =>
    intro n k b hm hn hb
    obtain ⟨n, rfl⟩ : ∃ n', n = n' + 1 := ⟨n - 1, by omega⟩
    have hk : k < F.length := by omega
    have zl : ¬ nI F.length ≤ nI k := by rw [nI_leI (by omega) (by omega)]; omega
    have em : mall F R (J 6) (m + 1) k = mrk F (J 6) k (rw1 F R k) 0 ++ mall F R (J 6) m (k + 1) := rfl
    rw [em] at hb ⊢
    rw [List.length_append] at hb ⊢
    have hq6 := rw1_4 (F := F) hR k
    obtain ⟨a1, a2, a3⟩ := msg_25 (ht := ht) (A := A) (J := J) h hk v1 (rw1 F R k) 70 0 b (by omega) (by omega) (by omega)
    have a1 : S_Lc_X7_message_25 70 ht I A J it dyn v1 (nI b) (nI k) 0 := a1
    generalize hl1 : mrk F (J 6) k (rw1 F R k) 0 = l1 at *
    generalize hl2 : mall F R (J 6) m (k + 1) = l2 at *
    obtain ⟨i1, i2, i3⟩ := ih n (k + 1) (b + l1.length) (by omega) (by omega) (by rw [hl2]; omega)
    rw [hl2] at i2 i3
    simp only [S_La_X7_message_11, La_X7_message_11_r, h.2.2.1, if_neg zl, nI_1]
    by_cases hx : ∃ i : Nat, i < l1.length ∧ v1 = nI (b + i)
    · obtain ⟨i, hi, hv⟩ := hx
      obtain ⟨c1, c2⟩ := a2 i l1[i] (List.getElem?_eq_getElem hi) hv
      have c1 : Lc_X7_message_25_f 70 ht I A J it dyn v1 (nI b) (nI k) 0 = true := c1
      have c2 : Lc_X7_message_25_r 70 ht I A J it dyn v1 (nI b) (nI k) 0 = nI l1[i] := c2
      simp only [c1, if_true]
      refine ⟨fun _ => ⟨a1, fun hh => absurd trivial hh⟩, fun j x hjx hv2 => ?_, fun hh => absurd hv (hh i (by omega))⟩
      have hjl := (List.getElem?_eq_some_iff.mp hjx).1
      rw [List.length_append] at hjl
      have hij : j = i := by
        rw [hv, nI_eq (by omega) (by omega)] at hv2
        omega
      subst hij
      rw [List.getElem?_append_left hi, List.getElem?_eq_getElem hi] at hjx
      rw [c2]
      simp at hjx
      rw [hjx]
    · obtain ⟨c1, c2⟩ := a3 (fun i hi hv => hx ⟨i, hi, hv⟩)
      have c1 : Lc_X7_message_25_f 70 ht I A J it dyn v1 (nI b) (nI k) 0 = false := c1
      have c2 : Lc_X7_message_25_v2 70 ht I A J it dyn v1 (nI b) (nI k) 0 = nI (b + l1.length) := c2
      simp only [c1, c2, Bool.false_eq_true, if_false]
      refine ⟨fun _ => ⟨a1, fun _ => i1⟩, fun j x hjx hv2 => ?_, fun hh => ?_⟩
      · by_cases hj : j < l1.length
        · exact absurd ⟨j, hj, hv2⟩ hx
        · rw [List.getElem?_append_right (by omega)] at hjx
          exact i2 (j - l1.length) x hjx (by rw [hv2]; congr 1; omega)
      · rw [i3 (fun i hi hv => hh (l1.length + i) (by omega) (by rw [hv]; congr 1; omega)), Nat.add_assoc]
end MG
theorem op_message (ht : Nat) : fzO_message ht (VV ht) := by
  intro I A J it dyn x1 h
  have h' := h
  obtain ⟨t, F, R, c, g1, g2, g3, g4, g5, g6, g7, g8, g9, g10, g11⟩ := h'
  have hl := g7.1.1
  unfold L_X7_message_r S_X7_message L_X8_message_r L_X8_message_I S_X8_message
  rw [g5, g6]
  simp only [nI01 g1]
  by_cases e : c = 0
  · simp only [if_pos e]
    refine ⟨fun h => absurd e h, fun a b d => ?_, ?_, h.i8 0⟩
    · obtain ⟨p, hp, rfl⟩ := int32_nat b
      exact absurd (by rw [iL 0, nI_leI (by omega) (by omega)]; omega) d
    · by_cases e1 : x1 = -1
      · rw [if_pos e1, if_pos e1]
      · rw [if_neg e1, if_neg e1]
        by_cases e2 : x1 < 0
        · rw [if_pos e2]
        · obtain ⟨p, hp, rfl⟩ := int32_nat e2
          rw [if_neg e2, if_pos (by rw [iL 0, nI_leI (by omega) (by omega)]; omega)]
  · simp only [if_neg e]
    obtain ⟨_, _, _, _, _, _, _, y8, y9, _⟩ := (g11 (by omega)).2.2
    obtain ⟨a1, a2, a3⟩ := msg_11 (ht := ht) (A := A) (J := J) g7 x1 F.length 70 0 0 (by omega) (by omega) (by omega)
    have a1 : S_La_X7_message_11 70 ht I A J it dyn x1 0 0 := a1
    have a2 : ∀ (i x : Nat), (mall F R (J 6) F.length 0)[i]? = some x → x1 = nI (0 + i) → La_X7_message_11_r 70 ht I A J it dyn x1 0 0 = nI x := a2
    have a3 : (∀ i : Nat, i < (mall F R (J 6) F.length 0).length → x1 ≠ nI (0 + i)) → La_X7_message_11_r 70 ht I A J it dyn x1 0 0 = if x1 = -1 then nI (0 + (mall F R (J 6) F.length 0).length) else -1 := a3
    generalize mall F R (J 6) F.length 0 = l at *
    rw [y8.1]
    by_cases e1 : x1 = -1
    · refine ⟨fun _ => a1, fun h => absurd e1 h, ?_, h.i8 0⟩
      rw [if_pos e1, a3 (fun i hi hv => nI_ne1 (show 0 + i < 2 ^ 31 by omega) (hv.symm.trans e1)), if_pos e1, Nat.zero_add]
    · by_cases e2 : x1 < 0
      · refine ⟨fun _ => a1, fun _ h => absurd e2 h, ?_, h.i8 0⟩
        rw [if_neg e1, if_pos e2, a3 (fun i hi hv => by rw [hv, iL 0, nI_ltI (by omega) (by omega)] at e2; omega), if_neg e1]
      · obtain ⟨p, hp, rfl⟩ := int32_nat e2
        have zp : (nI l.length ≤ nI p) ↔ l.length ≤ p := nI_leI (by omega) (by omega)
        refine ⟨fun _ => a1, fun _ _ d => ?_, ?_, h.i8 0⟩
        · rw [zp] at d
          exact nI_in (by omega) (by omega)
        · rw [if_neg e1, if_neg e2]
          simp only [zp]
          by_cases e3 : l.length ≤ p
          · rw [if_pos e3, a3 (fun i hi hv => by rw [nI_eq (by omega) (by omega)] at hv; omega), if_neg e1]
          · have hx := List.getElem?_eq_getElem (show p < l.length by omega)
            rw [if_neg e3, nI_clamp hp, y8.2 p _ hx, a2 p _ hx (by rw [Nat.zero_add])]
section CT
variable {ht : Nat} {F : List aItem} {R : Nat} {I : Nat → Int32} {A : Nat → Nat → Int32} {J : Nat → Nat → Int64} {it : Nat → Option Nat} {dyn : fsH}
theorem cnt_ex {p : Nat → Prop} {a : Nat} : ∀ b : Nat, a ≤ b → (∀ v : Nat, a ≤ v → v < b → ¬ p v) → cnt p b = cnt p a := by
  intro b
  induction b with
  | zero => intro h _; rw [show a = 0 by omega]
  | succ b ih =>
    intro h hv
    by_cases e : a = b + 1
    · rw [e]
    · show cnt p b + (@ite _ (p b) (Classical.propDecidable _) 1 0) = _
      rw [if_neg (hv b (by omega) (by omega)), Nat.add_zero]
      exact ih (by omega) (fun v a b => hv v a (by omega))
def pf (A : Nat → Nat → Int32) (v : Nat) : Prop := ¬ A 31 v = 0
theorem fc_17 (h : CF F R I it dyn) (h3 : ∀ v : Nat, v < 64 → isf F R v → OC (J 6 v) (J 30 v) (A 31 v)) (h4 : ∀ v : Nat, v < 64 → ¬ isf F R v → A 31 v = 0) {k : Nat} (hk : k < F.length) : S_Lb_X6_faultCount_17 70 ht I A J it dyn (nI (cnt (pf A) (4 * k))) (nI k) 0 ∧ Lb_X6_faultCount_17_v1 70 ht I A J it dyn (nI (cnt (pf A) (4 * k))) (nI k) 0 = nI (cnt (pf A) (4 * (k + 1))) := by
  have hl := h.1.1
  have hR := h.2.2.2.2
  have hr4 := rw1_4 (F := F) hR k
  obtain ⟨_, _, q3, q4, _, q6⟩ := rep_C (ht := ht) (A := A) (J := J) h (show k < 2 ^ 31 by omega)
  obtain ⟨k1, _, _, k4, _⟩ := kind_C (ht := ht) (A := A) (J := J) h (show k < 2 ^ 31 by omega)
  have z1 : ¬ (1 : Int32) = 0 := by decide
  have nf : ∀ v : Nat, v / 4 = k → (rw1 F R k ≤ v % 4 ∨ ¬ kd F k = 0) → ¬ pf A v := by
    intro v hv hh hp
    refine hp (h4 v (by omega) (fun hf => ?_))
    obtain ⟨a, b, c⟩ := hf
    rw [hv] at b c
    rcases hh with hh | hh
    · omega
    · exact hh b
  have r := lp (S := Int32) (F := fun n s v => Lb_X6_faultCount_17_v1 n ht I A J it dyn s (nI k) v) (SF := fun n s v => S_Lb_X6_faultCount_17 n ht I A J it dyn s (nI k) v) (rw1 F R k) (fun b s => s = nI (cnt (pf A) (4 * k + b))) (fun s i => if A 31 (4 * k + i) = 0 then s else s + 1) ?_ ?_ (rw1 F R k) 70 0 (nI (cnt (pf A) (4 * k))) (by omega) (by omega) rfl
  · refine ⟨r.1, ?_⟩
    have r2 : Lb_X6_faultCount_17_v1 70 ht I A J it dyn (nI (cnt (pf A) (4 * k))) (nI k) 0 = nI (cnt (pf A) (4 * k + rw1 F R k)) := r.2
    rw [r2, cnt_ex (a := 4 * k + rw1 F R k) (4 * (k + 1)) (by omega) (fun v a b => nf v (by omega) (Or.inl (by omega)))]
  · intro n s i hi hP
    have zl : ¬ nI (rw1 F R k) ≤ nI i := by rw [nI_leI (by omega) (by omega)]; omega
    obtain ⟨o1, o2⟩ := outc_C (ht := ht) (A := A) (J := J) h hk hi
    by_cases e : kd F k = 0
    · left
      have hoc := h3 (4 * k + i) (by omega) ⟨by rw [show (4 * k + i) / 4 = k by omega]; exact hk, by rw [show (4 * k + i) / 4 = k by omega]; exact e, by rw [show (4 * k + i) / 4 = k by omega, show (4 * k + i) % 4 = i by omega]; exact hi⟩
      have hf := OC_f (ht := ht) (I := I) (A := A) (J := J) (it := it) (dyn := dyn) hoc
      simp only [Lb_X6_faultCount_17_v1, S_Lb_X6_faultCount_17, q3, if_neg zl, k1, if_pos e, if_neg z1, o1, hf, nI_1]
      refine ⟨trivial, ?_, fun hh => ⟨q4, fun _ => ⟨k4, fun _ => ⟨o2, hh⟩⟩⟩⟩
      have ec : cnt (pf A) (4 * k + (i + 1)) = cnt (pf A) (4 * k + i) + (@ite _ (pf A (4 * k + i)) (Classical.propDecidable _) 1 0) := rfl
      rw [ec, hP]
      by_cases ea : A 31 (4 * k + i) = 0
      · rw [if_pos ea, if_neg (fun hp : pf A (4 * k + i) => hp ea), Nat.add_zero]
      · rw [if_neg ea, if_pos (show pf A (4 * k + i) from ea), nI_1]
    · right
      simp only [Lb_X6_faultCount_17_v1, S_Lb_X6_faultCount_17, q3, if_neg zl, k1, if_neg e, if_true]
      refine ⟨trivial, ⟨q4, fun _ => ⟨k4, fun hh => absurd trivial hh⟩⟩, ?_⟩
      rw [hP, cnt_ex (a := 4 * k + i) (4 * k + rw1 F R k) (by omega) (fun v a b => nf v (by omega) (Or.inr e))]
  · intro n s hP
    have zl : nI (rw1 F R k) ≤ nI (rw1 F R k) := by rw [nI_leI (by omega) (by omega)]; omega
    simp only [Lb_X6_faultCount_17_v1, S_Lb_X6_faultCount_17, q3, if_pos zl]
    exact ⟨trivial, q4, fun h => absurd zl h⟩
theorem fc_C (h : CF F R I it dyn) (h3 : ∀ v : Nat, v < 64 → isf F R v → OC (J 6 v) (J 30 v) (A 31 v)) (h4 : ∀ v : Nat, v < 64 → ¬ isf F R v → A 31 v = 0) : S_X6_faultCount ht I A J it dyn ∧ L_X6_faultCount_r ht I A J it dyn = nI (cnt (pf A) 64) := by
  have hl := h.1.1
  have r := lp (S := Int32) (F := fun n s v => Lb_X6_faultCount_4_v1 n ht I A J it dyn s v) (SF := fun n s v => S_Lb_X6_faultCount_4 n ht I A J it dyn s v) F.length (fun b s => s = nI (cnt (pf A) (4 * b))) (fun s k => Lb_X6_faultCount_17_v1 70 ht I A J it dyn s (nI k) 0) ?_ ?_ F.length 70 0 0 (by omega) (by omega) rfl
  · refine ⟨r.1, ?_⟩
    have r2 : L_X6_faultCount_r ht I A J it dyn = nI (cnt (pf A) (4 * F.length)) := r.2
    rw [r2, cnt_ex (a := 4 * F.length) 64 (by omega) (fun v a b hp => hp (h4 v b (fun hf => by have := hf.1; omega)))]
  · intro n s k hk hP
    left
    have zl : ¬ nI F.length ≤ nI k := by rw [nI_leI (by omega) (by omega)]; omega
    obtain ⟨a1, a2⟩ := fc_17 (ht := ht) h h3 h4 hk
    rw [← hP] at a1 a2
    simp only [Lb_X6_faultCount_4_v1, S_Lb_X6_faultCount_4, h.2.2.1, if_neg zl, nI_1]
    exact ⟨trivial, a2, fun hh _ => ⟨a1, hh⟩⟩
  · intro n s hP
    have zl : nI F.length ≤ nI F.length := by rw [nI_leI (by omega) (by omega)]; omega
    simp only [Lb_X6_faultCount_4_v1, S_Lb_X6_faultCount_4, h.2.2.1, if_pos zl]
    exact ⟨trivial, fun h => absurd zl h⟩
theorem ct_14 {c : Nat} (hc : c ≤ 1) (h12 : I 12 = nI c) (x1 : Int32) : S_Lb_X8_count_14 70 ht I A J it dyn x1 0 0 ∧ (c = 0 → Lb_X8_count_14_v2 70 ht I A J it dyn x1 0 0 = 0) ∧ (c = 1 → Lb_X8_count_14_v2 70 ht I A J it dyn x1 0 0 = nI (cnt (pf A) 64)) := by
  have r := lp (S := Int32) (F := fun n s v => Lb_X8_count_14_v2 n ht I A J it dyn x1 s v) (SF := fun n s v => S_Lb_X8_count_14 n ht I A J it dyn x1 s v) 64 (fun b s => (c = 0 → s = 0) ∧ (c = 1 → s = nI (cnt (pf A) b))) (fun s i => if A 31 i = 0 then s else s + 1) ?_ ?_ 64 70 0 0 (by omega) (by omega) ⟨fun _ => rfl, fun _ => rfl⟩
  · exact ⟨r.1, r.2⟩
  · intro n s i hi hP
    by_cases e : c = 0
    · right
      have h0 : I 12 = 0 := by rw [h12, e]; rfl
      simp only [Lb_X8_count_14_v2, S_Lb_X8_count_14, if_neg (n64 hi), if_pos h0]
      exact ⟨trivial, fun _ hh => absurd h0 hh, hP.1, fun h => by omega⟩
    · left
      have h0 : ¬ I 12 = 0 := by rw [h12, nI01 hc]; exact e
      simp only [Lb_X8_count_14_v2, S_Lb_X8_count_14, if_neg (n64 hi), if_neg h0, c64 hi, nI_1]
      refine ⟨trivial, ⟨fun h => absurd h e, fun h => ?_⟩, fun hh _ _ => ⟨i64 hi, hh⟩⟩
      have ec : cnt (pf A) (i + 1) = cnt (pf A) i + (@ite _ (pf A i) (Classical.propDecidable _) 1 0) := rfl
      rw [ec, hP.2 h]
      by_cases ea : A 31 i = 0
      · rw [if_pos ea, if_neg (fun hp : pf A i => hp ea), Nat.add_zero]
      · rw [if_neg ea, if_pos (show pf A i from ea), nI_1]
  · intro n s hP
    simp only [Lb_X8_count_14_v2, S_Lb_X8_count_14, if_pos n64e]
    exact ⟨trivial, fun h => absurd n64e h⟩
end CT
theorem op_count (ht : Nat) : fzO_count ht (VV ht) := by
  intro I A J it dyn x1 h
  have h' := h
  obtain ⟨t, F, R, c, g1, g2, g3, g4, g5, g6, g7, g8, g9, g10, g11⟩ := h'
  have hl := g7.1.1
  unfold L_X7_count_r S_X7_count L_X8_count_r L_X8_count_I S_X8_count
  have g6' : (upd I 8 0) 12 = nI c := by rw [upd_n _ _ (by decide)]; exact g6
  obtain ⟨a1, a2, a3⟩ := ct_14 (ht := ht) (A := A) (J := J) (it := it) (dyn := dyn) g1 g6' x1
  rw [g5, g6, g7.2.2.1, g7.2.2.2.1, g8.2.2.1, g8.2.2.2.1]
  simp only [nI01 g1]
  have hfc : ¬ c = 0 → S_X6_faultCount ht I A J it dyn ∧ L_X6_faultCount_r ht I A J it dyn = nI (cnt (pf A) 64) := fun e => by
    obtain ⟨_, _, y3, y4, _⟩ := (g11 (by omega)).2.2
    exact fc_C g7 y3 (fun v a b => (y4 v a b).1)
  refine ⟨fun _ _ _ _ _ e => (hfc e).1, fun _ => a1, ?_, h.i8 0⟩
  by_cases e4 : x1 = 4
  · subst e4
    rw [if_neg (by decide), if_neg (by decide), if_neg (by decide), if_neg (by decide), if_pos rfl, if_pos rfl]
    by_cases e : c = 0
    · rw [if_pos e, a2 e]
    · rw [if_neg e, (hfc e).2, a3 (by omega)]
  · simp only [if_neg e4]
theorem fz_all : fzAll := fun ht h4 h20 => ⟨VV ht, ⟨op_write ht, op_add ht, op_position ht, op_close ht h4 h20, op_clear ht, op_rows ht h4 h20, op_set ht h4 h20, op_get ht, op_fault ht, op_message ht, op_place ht, op_pages ht h20, op_line ht h4 h20, op_count ht⟩, VV_0 ht⟩
