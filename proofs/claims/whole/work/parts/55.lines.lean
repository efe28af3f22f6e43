/-! HOW MANY LINES, both sides -/
def flo (o : Int64) : Prop := o = 0 ∨ 1000000000000000 < o.toInt
noncomputable def hgt (F : List aItem) (oc : Nat → Int64) (v : Nat) : Nat := if kd F (v / 4) = 0 then 1 else if kd F (v / 4) = 2 then (wd F (v / 4) + 11) / 12 else @ite _ (flo (oc v)) (Classical.propDecidable _) 1 0
theorem hgt_3 {F : List aItem} (hw : wfF F) (oc : Nat → Int64) (v : Nat) : hgt F oc v ≤ 3 := by
  unfold hgt
  split
  · omega
  · split
    · rename_i h2
      by_cases hk : v / 4 < F.length
      · obtain ⟨x, hx⟩ := F_some hk
        obtain ⟨c1, c2, c3, c4, _⟩ := acc hx
        have := (hw.2 _ x hx).2.2.2.1 (by rw [← c1]; exact h2)
        rw [c4]; omega
      · unfold kd at h2
        rw [F_none (by omega)] at h2
        simp at h2
    · split <;> omega
theorem OC_flo {o v : Int64} {f : Int32} (h : OC o v f) : flo o ↔ (¬ f = 0 ∨ v = 0) := by
  unfold flo
  rw [OC_F h]
  by_cases hf : f = 0
  · subst hf
    rw [(OC_0 h).1]
    exact ⟨fun h => h.elim Or.inr (fun h => absurd rfl h), fun h => h.elim (fun h => absurd rfl h) Or.inl⟩
  · exact ⟨fun _ => Or.inl hf, fun _ => Or.inr hf⟩
section LN
variable {ht : Nat} {F : List aItem} {R : Nat} {I : Nat → Int32} {A : Nat → Nat → Int32} {J : Nat → Nat → Int64} {it : Nat → Option Nat} {dyn : fsH}
theorem fails_C (h : CF F R I it dyn) {k r : Nat} (hk : k < F.length) (hr : r < rw1 F R k) : S_X6_fails ht I A J it dyn (nI k) (nI r) ∧ (kd F k = 1 ∧ flo (J 6 (4 * k + r)) → L_X6_fails_r ht I A J it dyn (nI k) (nI r) = 1) ∧ (¬ (kd F k = 1 ∧ flo (J 6 (4 * k + r))) → L_X6_fails_r ht I A J it dyn (nI k) (nI r) = 0) := by
  have hl := h.1.1
  obtain ⟨_, f2, _, _, f5, _⟩ := kind_C (ht := ht) (A := A) (J := J) h (k := k) (by omega)
  obtain ⟨o1, o2⟩ := outc_C (ht := ht) (A := A) (J := J) h hk hr
  unfold L_X6_fails_r S_X6_fails flo
  rw [o1, f2]
  simp only [isF_C, lg_cmp_eq]
  by_cases h1 : kd F k = 1
  · simp only [if_pos h1, show ¬ (1 : Int32) = 0 by decide, if_false]
    refine ⟨⟨f5, fun _ => o2⟩, ?_, ?_⟩
    · rintro ⟨_, h2 | h2⟩
      · rw [if_pos h2]
      · by_cases h3 : J 6 (4 * k + r) = 0
        · rw [if_pos h3]
        · rw [if_neg h3, if_neg (fun h4 => h4 h2)]
    · intro h2
      rw [if_neg (fun h3 => h2 ⟨h1, Or.inl h3⟩), if_pos (fun h3 => h2 ⟨h1, Or.inr h3⟩)]
  · simp only [if_neg h1, if_true]
    exact ⟨⟨f5, fun h => absurd trivial h⟩, fun h2 => absurd h2.1 h1, fun _ => trivial⟩
theorem linesOf_C (h : CF F R I it dyn) {k r : Nat} (hk : k < F.length) (hr : r < rw1 F R k) : L_X3_linesOf_r ht I A J it dyn (nI k) (nI r) = nI (hgt F (J 6) (4 * k + r)) ∧ S_X3_linesOf ht I A J it dyn (nI k) (nI r) := by
  have hl := h.1.1
  obtain ⟨_, _, _, _, _, r6⟩ := rep_C (ht := ht) (A := A) (J := J) h (k := k) (by omega)
  obtain ⟨f1, f2, f3, f4, f5, f6⟩ := kind_C (ht := ht) (A := A) (J := J) h (k := k) (by omega)
  obtain ⟨g1, g2, g3⟩ := fails_C (ht := ht) (A := A) (J := J) h hk hr
  obtain ⟨x, hx⟩ := F_some hk
  obtain ⟨c1, c2, c3, c4, _⟩ := acc hx
  obtain ⟨D, a1, _, _, _, _, a6, w, k16, _, _⟩ := h.at hx
  have hin : vp_in (nI k) 16 := nI_in (by omega) (by omega)
  unfold L_X3_linesOf_r S_X3_linesOf hgt
  rw [f1, f3, nI_clamp (by omega), a6, show (4 * k + r) / 4 = k by omega]
  rcases (show kd F k = 0 ∨ kd F k = 1 ∨ kd F k = 2 by rw [c1]; have := w.1; omega) with e | e | e
  · rw [e]
    refine ⟨rfl, f6, fun _ => ⟨f4, fun h => absurd h (by decide)⟩, fun h => absurd rfl h⟩
  · simp only [e]
    refine ⟨?_, f6, fun _ => ⟨f4, fun _ => g1⟩, fun h => absurd (by decide) h⟩
    by_cases hf : flo (J 6 (4 * k + r))
    · rw [g2 ⟨e, hf⟩, if_pos hf]; rfl
    · rw [g3 (fun h => hf h.2), if_neg hf]; rfl
  · simp only [e]
    refine ⟨?_, f6, fun h => absurd h (by decide), fun _ => ⟨hin, a1⟩⟩
    rw [c4]; rfl
theorem measure_C (h : CF F R I it dyn) : S_X3_measure ht I A J it dyn ∧ (∀ n : Nat, n ≠ 12 → (L_X3_measure_A ht I A J it dyn) n = A n) ∧ ∀ v : Nat, v / 4 < F.length → v % 4 < rw1 F R (v / 4) → (L_X3_measure_A ht I A J it dyn) 12 v = nI (hgt F (J 6) v) := by
  have hl := h.1.1
  have r := lp (F := fun n A' v => Lb_X3_measure_2_A n ht I A' J it dyn v) (SF := fun n A' v => S_Lb_X3_measure_2 n ht I A' J it dyn v) F.length
    (fun k A' => (∀ n : Nat, n ≠ 12 → A' n = A n) ∧ ∀ v : Nat, v / 4 < k → v % 4 < rw1 F R (v / 4) → A' 12 v = nI (hgt F (J 6) v))
    (fun A' k => Lb_X3_measure_15_A 70 ht I A' J it dyn (nI k) 0) ?_ ?_ F.length 70 0 A (by omega) (by omega) ⟨fun _ _ => rfl, fun v hv => by omega⟩
  · exact r
  · rintro n A1 k hk ⟨q1, q2⟩
    left
    have zl : ¬ nI F.length ≤ nI k := by rw [nI_leI (by omega) (by omega)]; omega
    have r6 := (rep_C (ht := ht) (A := A) (J := J) h (k := k) (by omega)).2.2.2.2.2
    have r3 := fun (A' : Nat → Nat → Int32) => (rep_C (ht := ht) (A := A') (J := J) h (k := k) (by omega)).2.2.1
    have r4 := fun (A' : Nat → Nat → Int32) => (rep_C (ht := ht) (A := A') (J := J) h (k := k) (by omega)).2.2.2.1
    have r5 : S_Lb_X3_measure_15 70 ht I A1 J it dyn (nI k) 0 ∧ ((∀ n : Nat, n ≠ 12 → (Lb_X3_measure_15_A 70 ht I A1 J it dyn (nI k) 0) n = A n) ∧ ∀ v : Nat, (v / 4 < k ∨ (v / 4 = k ∧ v % 4 < rw1 F R k)) → v % 4 < rw1 F R (v / 4) → (Lb_X3_measure_15_A 70 ht I A1 J it dyn (nI k) 0) 12 v = nI (hgt F (J 6) v)) := by
      refine lp (F := fun n A' v => Lb_X3_measure_15_A n ht I A' J it dyn (nI k) v) (SF := fun n A' v => S_Lb_X3_measure_15 n ht I A' J it dyn (nI k) v) (rw1 F R k)
        (fun i A' => (∀ n : Nat, n ≠ 12 → A' n = A n) ∧ ∀ v : Nat, (v / 4 < k ∨ (v / 4 = k ∧ v % 4 < i)) → v % 4 < rw1 F R (v / 4) → A' 12 v = nI (hgt F (J 6) v))
        (fun A' i => va_up A' 12 (upd (A' 12) (4 * k + i) (nI (hgt F (J 6) (4 * k + i))))) ?_ ?_ (rw1 F R k) 70 0 A1 (by omega) (by omega) ⟨q1, fun v hv => q2 v (by omega)⟩
      · rintro n A2 i hi ⟨p1, p2⟩
        left
        have zl2 : ¬ nI (rw1 F R k) ≤ nI i := by rw [nI_leI (by omega) (by omega)]; omega
        obtain ⟨l1, l2⟩ := linesOf_C (ht := ht) (A := A2) (J := J) h hk hi
        have hin : vp_in (nI (4 * k + i)) 64 := nI_in (by omega) (by omega)
        simp only [Lb_X3_measure_15_A, S_Lb_X3_measure_15, r3, if_neg zl2, cellOf_C, nI_clamp (show 4 * k + i < 2 ^ 31 by omega), l1, nI_1]
        refine ⟨trivial, ⟨fun n hn => by simp [va_up, hn]; exact p1 n hn, fun v hv hv2 => ?_⟩, fun hh => ⟨r4 A2, fun _ => ⟨l2, hin, hh⟩⟩⟩
        by_cases e : v = 4 * k + i
        · subst e; simp [va_up, upd]
        · have : (va_up A2 12 (upd (A2 12) (4 * k + i) (nI (hgt F (J 6) (4 * k + i))))) 12 v = A2 12 v := by simp [va_up, upd, e]
          rw [this]
          refine p2 v ?_ hv2
          rcases hv with hv | hv
          · exact Or.inl hv
          · exact Or.inr ⟨hv.1, by omega⟩
      · rintro n A2 hP
        have zl2 : nI (rw1 F R k) ≤ nI (rw1 F R k) := by rw [nI_leI (by omega) (by omega)]; omega
        simp only [Lb_X3_measure_15_A, S_Lb_X3_measure_15, r3, if_pos zl2]
        exact ⟨trivial, r4 A2, fun h => absurd zl2 h⟩
    rw [Lb_X3_measure_2_A, S_Lb_X3_measure_2, h.2.2.1, if_neg zl, nI_1]
    refine ⟨rfl, ⟨r5.2.1, fun v hv hv2 => r5.2.2 v ?_ hv2⟩, fun hh _ => ⟨r5.1, hh⟩⟩
    by_cases e : v / 4 = k
    · rw [e] at hv2; exact Or.inr ⟨e, hv2⟩
    · exact Or.inl (by omega)
  · rintro n A1 hP
    have zl : nI F.length ≤ nI F.length := by rw [nI_leI (by omega) (by omega)]; omega
    rw [Lb_X3_measure_2_A, S_Lb_X3_measure_2, h.2.2.1, if_pos zl]
    exact ⟨rfl, fun h => absurd zl h⟩
/-- the reference's checks are as those outcomes say -/
def chk (F : List aItem) (R : Nat) (oc : Nat → Int64) (A : Nat → Nat → Int32) (J : Nat → Nat → Int64) : Prop := OCA (ocM A J) A J ∧ ∀ v : Nat, wkC F R v → kd F (v / 4) = 1 → oc v = val F R (ocM A J) (v % 4) (pl F (v / 4))
theorem chk.cg {oc : Nat → Int64} (h : chk F R oc A J) {A' : Nat → Nat → Int32} {J' : Nat → Nat → Int64} (h1 : A' 31 = A 31) (h2 : J' 30 = J 30) : chk F R oc A' J' := by
  have e : ocM A' J' = ocM A J := by funext u; unfold ocM; rw [h1, h2]
  refine ⟨fun u hu => ?_, fun v hv hk => ?_⟩
  · rw [e, h1, h2]; exact h.1 u hu
  · rw [e]; exact h.2 v hv hk
theorem fails_M {oc : Nat → Int64} (h : MF F R I A J) (hok : nmOK F) (hc : chk F R oc A J) {k r : Nat} (hk : k < F.length) (hr : r < rw1 F R k) (hkd : kd F k = 1) : S_X8_fails ht I A J it dyn (nI k) (nI r) ∧ (flo (oc (4 * k + r)) → L_X8_fails_r ht I A J it dyn (nI k) (nI r) = 1) ∧ (¬ flo (oc (4 * k + r)) → L_X8_fails_r ht I A J it dyn (nI k) (nI r) = 0) ∧ (∀ a : Nat, a ≠ 36 → (L_X8_fails_A ht I A J it dyn (nI k) (nI r)) a = A a) ∧ ∀ a : Nat, a ≠ 35 → (L_X8_fails_J ht I A J it dyn (nI k) (nI r)) a = J a := by
  have hl := h.1.1
  obtain ⟨x, hx⟩ := F_some hk
  obtain ⟨c1, c2, c3, c4, _⟩ := acc hx
  obtain ⟨_, _, r3⟩ := rowsOf_M (ht := ht) (it := it) (dyn := dyn) h hk
  have hne : x.2.2.2.2 ≠ [] := (h.1.2 k x hx).2.2.2.2.1 (by rw [← c1]; exact hkd)
  obtain ⟨w1, w2, w3, w4, w5, w6⟩ := work_M (ht := ht) (it := it) (dyn := dyn) (r := r) hx (hok k x hx) (by omega) hne h hc.1
  have hv := hc.2 (4 * k + r) ⟨by omega, by rw [show (4 * k + r) / 4 = k by omega, show (4 * k + r) % 4 = r by omega]; exact hr, by rw [show (4 * k + r) / 4 = k by omega, c3]; exact hne⟩ (by rw [show (4 * k + r) / 4 = k by omega]; exact hkd)
  rw [show (4 * k + r) / 4 = k by omega, show (4 * k + r) % 4 = r by omega, c3] at hv
  rw [← hv] at w6
  have hin : vp_in (nI (x.2.2.2.2.length - 1)) 32 := nI_in (by omega) (by omega)
  unfold S_X8_fails L_X8_fails_r L_X8_fails_A L_X8_fails_J
  rw [w2, nI_clamp (by omega)]
  refine ⟨⟨w1, hin, fun _ => hin⟩, fun hf => ?_, fun hf => ?_, w4, w5⟩
  · simp only [lg_cmp_eq]
    rcases (OC_flo w6).mp hf with h2 | h2
    · rw [if_neg h2]
    · by_cases h3 : (L_X8_work_A ht I A J it dyn (nI k) (nI r)) 36 (x.2.2.2.2.length - 1) = 0
      · rw [if_pos h3, if_pos h2]
      · rw [if_neg h3]
  · simp only [lg_cmp_eq]
    have h2 := fun h => hf ((OC_flo w6).mpr h)
    have h3 : (L_X8_work_A ht I A J it dyn (nI k) (nI r)) 36 (x.2.2.2.2.length - 1) = 0 := Classical.byContradiction fun h => h2 (Or.inl h)
    rw [if_pos h3, if_neg (fun h => h2 (Or.inr h))]
theorem linesOf_M {oc : Nat → Int64} (h : MF F R I A J) (hok : nmOK F) (hc : chk F R oc A J) {k r : Nat} (hk : k < F.length) (hr : r < rw1 F R k) : S_X8_linesOf ht I A J it dyn (nI k) (nI r) ∧ L_X8_linesOf_r ht I A J it dyn (nI k) (nI r) = nI (hgt F oc (4 * k + r)) ∧ (∀ a : Nat, a ≠ 36 → (L_X8_linesOf_A ht I A J it dyn (nI k) (nI r)) a = A a) ∧ ∀ a : Nat, a ≠ 35 → (L_X8_linesOf_J ht I A J it dyn (nI k) (nI r)) a = J a := by
  have hl := h.1.1
  obtain ⟨x, hx⟩ := F_some hk
  obtain ⟨c1, c2, c3, c4, _⟩ := acc hx
  obtain ⟨_, _, r3⟩ := rowsOf_M (ht := ht) (it := it) (dyn := dyn) h hk
  have w := h.1.2 k x hx
  have M := h.2.1 k x hx
  have hin : vp_in (nI k) 17 := nI_in (by omega) (by omega)
  have z0 : (nI x.1 = 0) ↔ x.1 = 0 := by have := w.1; rw [iL 0, nI_eq (by omega) (by omega)]
  have z2 : (nI x.1 = 2) ↔ x.1 = 2 := by have := w.1; rw [iL 2, nI_eq (by omega) (by omega)]
  unfold S_X8_linesOf L_X8_linesOf_r L_X8_linesOf_A L_X8_linesOf_J hgt
  rw [nI_clamp (by omega), M.1, show (4 * k + r) / 4 = k by omega, c1]
  simp only [z0, z2]
  by_cases h0 : x.1 = 0
  · simp only [if_pos h0]
    exact ⟨⟨hin, fun h => absurd h0 h⟩, rfl, fun _ _ => trivial, fun _ _ => trivial⟩
  · simp only [if_neg h0]
    by_cases h2 : x.1 = 2
    · simp only [if_pos h2]
      refine ⟨⟨hin, fun _ => ⟨hin, fun _ => hin, fun h => absurd h2 h⟩⟩, ?_, fun _ _ => trivial, fun _ _ => trivial⟩
      rw [M.2.2.2.1 h2, c4]
      have := (w.2.2.2.1 h2).2.2.2
      exact (by decide +kernel : ∀ w : Nat, w < 37 → (nI w + 11) / 12 = nI ((w + 11) / 12)) _ (by omega)
    · simp only [if_neg h2]
      obtain ⟨f1, f2, f3, f4, f5⟩ := fails_M (ht := ht) (it := it) (dyn := dyn) h hok hc hk hr (by rw [c1]; have := w.1; omega)
      refine ⟨⟨hin, fun _ => ⟨hin, fun h => absurd h h2, fun _ => f1⟩⟩, ?_, f4, f5⟩
      by_cases hf : flo (oc (4 * k + r))
      · rw [f2 hf, if_pos hf]; rfl
      · rw [f3 hf, if_neg hf]; rfl
end LN
