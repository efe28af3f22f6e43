/-! TELLING: the class -/
section TL
variable {ht : Nat} {F : List aItem} {R : Nat} {I : Nat → Int32} {A : Nat → Nat → Int32} {J : Nat → Nat → Int64} {it : Nat → Option Nat} {dyn : fsH} {os : List Nat}
theorem notin_take {os : List Nat} (hN : os.Nodup) {i v : Nat} (hi : os[i]? = some v) : v ∉ os.take i := by
  intro hm
  have hil : i < os.length := (List.getElem?_eq_some_iff.mp hi).1
  obtain ⟨j, hj⟩ := List.mem_iff_getElem?.mp hm
  have hjl := (List.getElem?_eq_some_iff.mp hj).1
  rw [List.length_take] at hjl
  rw [List.getElem?_take_of_lt (by omega)] at hj
  have := (List.getElem?_inj (by omega) hN).mp (hj.trans hi.symm)
  omega
theorem tell_C (h : CR F R I it dyn) (hL : lnk F R os I A J) (hfit : ∀ u : Nat, wkC F R u → fit F R (J 6) u) (hoc : ∀ u : Nat, okO (J 6 u)) {c : Nat} (hc : c < 64) (hcw : ¬ wkC F R c) {x : Int64} (hx : okO x) :
    S_X6_tell ht I A J it dyn (nI c) x ∧ L_X6_tell_r ht I A J it dyn (nI c) x = nI (cnt (fun u => (wkC F R u ∧ HC F R u c) ∧ kd F (u / 4) = 0) 64) ∧ (∀ n : Nat, n ≠ 6 → (L_X6_tell_J ht I A J it dyn (nI c) x) n = J n) ∧ (L_X6_tell_J ht I A J it dyn (nI c) x) 6 c = x ∧ (∀ u : Nat, ¬ wkC F R u → u ≠ c → (L_X6_tell_J ht I A J it dyn (nI c) x) 6 u = J 6 u) ∧ (∀ u : Nat, wkC F R u → fit F R ((L_X6_tell_J ht I A J it dyn (nI c) x) 6) u) ∧ ∀ u : Nat, okO ((L_X6_tell_J ht I A J it dyn (nI c) x) 6 u) := by
  have hl := h.1.1.1
  obtain ⟨l1, l2, l3, l4, l5⟩ := hL
  have hos : os.length ≤ 64 := nd_len 64 os l4.1 (fun x hx => (l4.2.1 x hx).2)
  have z0 : ¬ nI c < 0 := by rw [iL 0, nI_ltI (by omega) (by omega)]; omega
  have z64 : nI c < 64 := by rw [iL 64, nI_ltI (by omega) (by omega)]; omega
  unfold S_X6_tell L_X6_tell_r L_X6_tell_J
  rw [if_neg z0, if_pos z64, if_neg z0, if_pos z64, c64 hc]
  have e1 : ∀ n : Nat, n ≠ 6 → (va_up J 6 (vp_updL (J 6) c x)) n = J n := fun n hn => by simp [va_up, hn]
  have e2 : (va_up J 6 (vp_updL (J 6) c x)) 6 c = x := by simp [va_up, vp_updL]
  have e3 : ∀ u : Nat, u ≠ c → (va_up J 6 (vp_updL (J 6) c x)) 6 u = J 6 u := fun u hu => by simp [va_up, vp_updL, hu]
  generalize va_up J 6 (vp_updL (J 6) c x) = J1 at *
  have hok1 : ∀ u : Nat, okO (J1 6 u) := fun u => by
    by_cases e : u = c
    · subst e; rw [e2]; exact hx
    · rw [e3 u e]; exact hoc u
  have r := lp (S := (Nat → Nat → Int64) × Int32) (F := fun n s v => (Lb_X6_tell_25_J n ht I A s.1 it dyn (nI c) x s.2 v, Lb_X6_tell_25_v4 n ht I A s.1 it dyn (nI c) x s.2 v)) (SF := fun n s v => S_Lb_X6_tell_25 n ht I A s.1 it dyn (nI c) x s.2 v) os.length
    (fun i s => (∀ n : Nat, n ≠ 6 → s.1 n = J1 n) ∧ (∀ u : Nat, ¬ (u ∈ os.take i ∧ HC F R u c) → s.1 6 u = J1 6 u) ∧ (∀ u ∈ os.take i, fit F R (s.1 6) u) ∧ (∀ u : Nat, okO (s.1 6 u)) ∧ s.2 = nI (cnt (fun u => (u ∈ os.take i ∧ HC F R u c) ∧ kd F (u / 4) = 0) 64))
    (fun s i => (if L_X6_hangsOn_r ht I A s.1 it dyn (A 8 i) (nI c) = 0 then s.1 else L_X6_workOut_J ht I A s.1 it dyn (A 8 i), if L_X6_hangsOn_r ht I A s.1 it dyn (A 8 i) (nI c) = 0 then s.2 else s.2 + (if L_X1_isField_r ht I A (L_X6_workOut_J ht I A s.1 it dyn (A 8 i)) it dyn (A 8 i / 4) = 0 then 0 else 1)))
    ?_ ?_ os.length 70 0 (J1, 0) (by omega) (by omega) ⟨fun _ _ => rfl, fun _ _ => rfl, fun u hu => by simp at hu, hok1, by
      show (0 : Int32) = _
      rw [cnt_c (q := fun _ => False) (fun i => by simp) 64]
      have : ∀ n : Nat, cnt (fun _ => False) n = 0 := fun n => by
        induction n with
        | zero => rfl
        | succ n ih => unfold cnt; rw [ih, if_neg id]
      rw [this]; rfl⟩
  · dsimp only at r
    obtain ⟨s2, q1, q2, q3, q4, q5⟩ := r
    rw [List.take_of_length_le (Nat.le_refl _)] at q2 q3 q5
    have hnc : ¬ (c ∈ os ∧ HC F R c c) := fun hh => hcw (l4.2.1 c hh.1).1
    refine ⟨fun _ _ => ⟨i64 hc, s2⟩, ?_, fun n hn => (q1 n hn).trans (e1 n hn), (q2 c hnc).trans e2, fun u hu hu2 => (q2 u (fun hh => hu (l4.2.1 u hh.1).1)).trans (e3 u hu2), fun u hu => q3 u (l5 u hu), q4⟩
    refine q5.trans ?_
    rw [cnt_c (fun u => ?_) 64]
    constructor
    · rintro ⟨⟨a, b⟩, d⟩; exact ⟨⟨(l4.2.1 u a).1, b⟩, d⟩
    · rintro ⟨⟨a, b⟩, d⟩; exact ⟨⟨l5 u a, b⟩, d⟩
  · rintro n ⟨J', w⟩ i hi ⟨q1, q2, q3, q4, q5⟩
    left
    dsimp only at q1 q2 q3 q4 q5 ⊢
    obtain ⟨v, hv⟩ : ∃ v, os[i]? = some v := ⟨_, List.getElem?_eq_getElem hi⟩
    obtain ⟨hvW, hv64⟩ := l4.2.1 v (List.mem_of_getElem? hv)
    have hA8 := l3 i v hv
    have hH : ∀ v : Nat, v < 64 → ∀ u : Nat, bt (J' 7 v) u ↔ HC F R v u := fun v hv u => by rw [q1 7 (by decide), e1 7 (by decide)]; exact l1 v hv u
    obtain ⟨w1, o, w2, w3, w4, w5⟩ := wo_C (ht := ht) (A := A) h hH q4 hvW
    obtain ⟨g1, g2⟩ := hangsOn_C (ht := ht) (I := I) (A := A) (J := J') (it := it) (dyn := dyn) hv64 hc
    have zl : ¬ nI os.length ≤ nI i := by rw [nI_leI (by omega) (by omega)]; omega
    have hnot := notin_take l4.1 hv
    have hvc : v ≠ c := fun e => hcw (e ▸ hvW)
    have ed : nI v / 4 = nI (v / 4) := div4 v hv64
    obtain ⟨k1, _, _, k4, _, _⟩ := kind_C (ht := ht) (A := A) (J := L_X6_workOut_J ht I A J' it dyn (nI v)) h.1 (k := v / 4) (by omega)
    rw [Lb_X6_tell_25_J, Lb_X6_tell_25_v4, S_Lb_X6_tell_25]
    simp only [l2, if_neg zl, nI_clamp (show i < 2 ^ 31 by omega), nI_1, hA8, ed]
    refine ⟨trivial, ?_, fun hh _ => ⟨i64 (by omega), g2, fun _ => ⟨i64 (by omega), w1, i64 (by omega), k4⟩, hh⟩⟩
    have htk : ∀ u : Nat, u ∈ os.take (i + 1) ↔ u ∈ os.take i ∨ u = v := fun u => by
      rw [List.take_add_one, hv]
      simp
    by_cases hh : L_X6_hangsOn_r ht I A J' it dyn (nI v) (nI c) = 0
    · have hnh : ¬ HC F R v c := fun h2 => g1.mp hh ((hH v hv64 c).mpr h2)
      simp only [if_pos hh]
      refine ⟨q1, fun u hu => q2 u (fun h2 => hu ⟨(htk u).mpr (Or.inl h2.1), h2.2⟩), fun u hu => ?_, q4, ?_⟩
      · rcases (htk u).mp hu with hu | rfl
        · exact q3 u hu
        · have hun : ∀ w : Nat, (w = u ∨ DC F R u w) → J' 6 w = J 6 w := fun w hw => by
            have hwc : w ≠ c := by
              rintro rfl
              rcases hw with e | e
              · exact hvc e.symm
              · exact hnh (Relation.TransGen.single e)
            rw [q2 w (fun h2 => ?_), e3 w hwc]
            rcases hw with e | e
            · subst e; exact hnh h2.2
            · exact hnh (Relation.TransGen.trans (Relation.TransGen.single e) h2.2)
          obtain ⟨f1, f2⟩ := hfit u hvW
          refine ⟨fun hcc => by rw [hun u (Or.inl rfl)]; exact f1 hcc, fun hcc => ?_⟩
          rw [hun u (Or.inl rfl), f2 hcc]
          exact val_c (fun w hw => (hun w (Or.inr ⟨hvW, hw⟩)).symm)
      · rw [q5, cnt_c (fun u => ?_) 64]
        constructor
        · rintro ⟨⟨a, b⟩, d⟩; exact ⟨⟨(htk u).mpr (Or.inl a), b⟩, d⟩
        · rintro ⟨⟨a, b⟩, d⟩
          rcases (htk u).mp a with a | rfl
          · exact ⟨⟨a, b⟩, d⟩
          · exact absurd b hnh
    · have hyh : HC F R v c := (hH v hv64 c).mp (Classical.byContradiction fun h2 => hh (g1.mpr h2))
      simp only [if_neg hh]
      have e6 : ∀ u : Nat, u ≠ v → (va_up J' 6 (vp_updL (J' 6) v o)) 6 u = J' 6 u := fun u hu => by simp [va_up, vp_updL, hu]
      have e6v : (va_up J' 6 (vp_updL (J' 6) v o)) 6 v = o := by simp [va_up, vp_updL]
      rw [k1, w2]
      refine ⟨fun n hn => by simp [va_up, hn]; exact q1 n hn, fun u hu => ?_, fit_s l4 hv e6 q3 (fun hc => by rw [e6v]; exact w3 hc) (fun hc => by rw [e6v]; exact w4 hc), fun u => ?_, ?_⟩
      · have huv : u ≠ v := fun e => hu ⟨(htk u).mpr (Or.inr e), by rw [e]; exact hyh⟩
        rw [e6 u huv]
        exact q2 u (fun h2 => hu ⟨(htk u).mpr (Or.inl h2.1), h2.2⟩)
      · by_cases e : u = v
        · subst e; rw [e6v]; exact w5
        · rw [e6 u e]; exact q4 u
      · rw [q5]
        by_cases hk : kd F (v / 4) = 0
        · rw [if_pos hk, if_neg (by decide), nI_1]
          congr 1
          rw [cnt_s (p := fun u => (u ∈ os.take i ∧ HC F R u c) ∧ kd F (u / 4) = 0) (q := fun u => (u ∈ os.take (i + 1) ∧ HC F R u c) ∧ kd F (u / 4) = 0) (v := v) (fun u => ?_) (fun h2 => hnot h2.1.1) 64, if_pos hv64]
          constructor
          · rintro ⟨⟨a, b⟩, d⟩
            rcases (htk u).mp a with a | a
            · exact Or.inl ⟨⟨a, b⟩, d⟩
            · exact Or.inr a
          · rintro (⟨⟨a, b⟩, d⟩ | rfl)
            · exact ⟨⟨(htk u).mpr (Or.inl a), b⟩, d⟩
            · exact ⟨⟨(htk u).mpr (Or.inr rfl), hyh⟩, hk⟩
        · rw [if_neg hk, if_pos rfl, iL 0, nI_add, Nat.add_zero, cnt_c (fun u => ?_) 64]
          constructor
          · rintro ⟨⟨a, b⟩, d⟩; exact ⟨⟨(htk u).mpr (Or.inl a), b⟩, d⟩
          · rintro ⟨⟨a, b⟩, d⟩
            rcases (htk u).mp a with a | rfl
            · exact ⟨⟨a, b⟩, d⟩
            · exact absurd d hk
  · rintro n ⟨J', w⟩ hP
    dsimp only
    have zl : nI os.length ≤ nI os.length := by rw [nI_leI (by omega) (by omega)]; omega
    rw [Lb_X6_tell_25_J, Lb_X6_tell_25_v4, S_Lb_X6_tell_25]
    simp only [l2, if_pos zl]
    exact ⟨trivial, fun h => absurd zl h⟩
end TL
