/-! WORKING OUT: the class -/
def HC (F : List aItem) (R v u : Nat) : Prop := Relation.TransGen (DC F R) v u
/-- what a worked out cell must be -/
def fit (F : List aItem) (R : Nat) (oc : Nat → Int64) (v : Nat) : Prop := (HC F R v v → oc v = 10000000000000003) ∧ (¬ HC F R v v → oc v = val F R oc (v % 4) (pl F (v / 4)))
theorem cnt_c {p q : Nat → Prop} (h : ∀ i : Nat, p i ↔ q i) (n : Nat) : cnt p n = cnt q n := Nat.le_antisymm (cnt_le (fun i => (h i).mp) n) (cnt_le (fun i => (h i).mpr) n)
theorem cnt_s {p q : Nat → Prop} {v : Nat} (h : ∀ i : Nat, q i ↔ p i ∨ i = v) (hv : ¬ p v) : ∀ n : Nat, cnt q n = cnt p n + (if v < n then 1 else 0) := by
  intro n
  induction n with
  | zero => simp [cnt]
  | succ n ih =>
    unfold cnt
    rw [ih]
    by_cases e : n = v
    · subst e
      rw [if_pos ((h n).mpr (Or.inr rfl)), if_neg hv, if_neg (by omega), if_pos (by omega)]
    · have : q n ↔ p n := (h n).trans ⟨fun h => h.resolve_right e, Or.inl⟩
      by_cases hp : p n
      · rw [if_pos (this.mpr hp), if_pos hp]
        by_cases hlt : v < n
        · rw [if_pos hlt, if_pos (by omega)]
        · rw [if_neg hlt, if_neg (by omega)]
      · rw [if_neg (fun h => hp (this.mp h)), if_neg hp]
        by_cases hlt : v < n
        · rw [if_pos hlt, if_pos (by omega)]
        · rw [if_neg hlt, if_neg (by omega)]
theorem cnt_64 (p : Nat → Prop) : ∀ n : Nat, cnt p n ≤ n := by
  intro n
  induction n with
  | zero => exact Nat.le_refl _
  | succ n ih =>
    unfold cnt
    by_cases h : p n
    · rw [if_pos h]; omega
    · rw [if_neg h]; omega
theorem div4 : ∀ v : Nat, v < 64 → nI v / 4 = nI (v / 4) := by decide +kernel
section SV
variable {ht : Nat} {F : List aItem} {R : Nat} {I : Nat → Int32} {A : Nat → Nat → Int32} {J : Nat → Nat → Int64} {it : Nat → Option Nat} {dyn : fsH} {os : List Nat}
/-- hanging, order: what link leaves -/
def lnk (F : List aItem) (R : Nat) (os : List Nat) (I : Nat → Int32) (A : Nat → Nat → Int32) (J : Nat → Nat → Int64) : Prop :=
  (∀ v : Nat, v < 64 → ∀ u : Nat, bt (J 7 v) u ↔ HC F R v u) ∧ I 6 = nI os.length ∧ (∀ (i v : Nat), os[i]? = some v → A 8 i = nI v) ∧ ordT (HC F R) (wkC F R) os ∧ ∀ u : Nat, wkC F R u → u ∈ os
theorem lnk.l (h : lnk F R os I A J) : os.length ≤ 64 := nd_len 64 os h.2.2.2.1.1 (fun x hx => (h.2.2.2.1.2.1 x hx).2)
theorem wo_C (h : CR F R I it dyn) (hH : ∀ v : Nat, v < 64 → ∀ u : Nat, bt (J 7 v) u ↔ HC F R v u) (hoc : ∀ u : Nat, okO (J 6 u)) {v : Nat} (hv : wkC F R v) : S_X6_workOut ht I A J it dyn (nI v) ∧ ∃ o : Int64, L_X6_workOut_J ht I A J it dyn (nI v) = va_up J 6 (vp_updL (J 6) v o) ∧ (HC F R v v → o = 10000000000000003) ∧ (¬ HC F R v v → o = val F R (J 6) (v % 4) (pl F (v / 4))) ∧ okO o := by
  have hl := h.1.1.1
  have hR := h.1.2.2.2.2
  obtain ⟨v1, v2, v3⟩ := hv
  have hk : v / 4 < F.length := by
    unfold rw1 at v2
    split at v2
    · assumption
    · omega
  obtain ⟨x, hx⟩ := F_some hk
  obtain ⟨D, a1, a2, a3, wf, k16, hok⟩ := h.at hx
  obtain ⟨c1, c2, c3, _⟩ := acc hx
  have h0 : x.2.2.2.2 ≠ [] := by rw [← c3]; exact v3
  have hPT : PT 7 0 x.2.2.2.2 := wf.2.2.2.2.2.1.resolve_left h0
  have ed : nI v / 4 = nI (v / 4) := div4 v v1
  have er : nI v - nI v / 4 * 4 = nI (v % 4) := by
    rw [ed, iL 4, nI_mul, nI_subN (by omega)]
    congr 1; omega
  obtain ⟨h1, h2, _⟩ := has_C (ht := ht) (A := A) (J := J) h.1 (k := v / 4) (r := v % 4) (by omega) (by omega)
  have hn : ¬ L_X1_has_r ht I A J it dyn (nI (v / 4)) (nI (v % 4)) = 0 := fun h3 => h1.mp h3 v2
  obtain ⟨g1, g2⟩ := hangsOn_C (ht := ht) (I := I) (A := A) (J := J) (it := it) (dyn := dyn) v1 v1
  have hrep : x.2.2.1 = 1 → v % 4 < R := fun e => by
    unfold rw1 at v2
    rw [if_pos hk, c2, e, if_neg (by decide)] at v2
    exact v2
  obtain ⟨w1, w2⟩ := wor_C (ht := ht) (A := A) h.1 hoc (rep := x.2.2.1) (D := D) (r := v % 4) (by omega) hrep 7 0 x.2.2.2.2 10 [] hPT (by decide) a3 hok rfl (fun x hx => by simp at hx)
  have w2 : L_X6_worth_r ht I A J it dyn (some (D + 0 + (x.2.2.2.2.length - 1) + 41)) (nI (v % 4)) = val F R (J 6) (v % 4) (pl F (v / 4)) := by
    unfold L_X6_worth_r val
    rw [w2, c3, Nat.zero_add]
  have w1 : S_X6_worth ht I A J it dyn (some (D + 0 + (x.2.2.2.2.length - 1) + 41)) (nI (v % 4)) := w1
  have ez : fs_dR dyn (it (v / 4)) 3 = some (D + 0 + (x.2.2.2.2.length - 1) + 41) := by rw [a2, if_neg h0]
  have hin : vp_in (nI (v / 4)) 16 := nI_in (by omega) (by omega)
  unfold S_X6_workOut L_X6_workOut_J
  rw [er, ed, if_neg hn, nI_clamp (show v / 4 < 2 ^ 31 by omega), ez, w2, c64 v1]
  have hcirc : okO 10000000000000003 := ⟨0, nI 3, OC_n (by decide) (by decide)⟩
  have hval : okO (val F R (J 6) (v % 4) (pl F (v / 4))) := by
    unfold val
    refine okO_g (okO_evs hoc _ _ (fun q hq => ?_) (fun x hx => by simp at hx)) _
    rw [c3] at hq
    exact ⟨(PT_q hPT q hq).2.1, (PT_q hPT q hq).2.2⟩
  refine ⟨⟨h2, fun _ => ⟨g2, fun _ => ⟨hin, a1, w1⟩, i64 v1⟩⟩, _, rfl, ?_, ?_, ?_⟩
  · intro hc
    rw [if_neg]
    exact fun h3 => g1.mp h3 ((hH v v1 v).mpr hc)
  · intro hc
    rw [if_pos]
    exact g1.mpr (fun hb => hc ((hH v v1 v).mp hb))
  · split
    · exact hval
    · exact hcirc
/-- a new outcome of v leaves what stands ahead of it fitting, and v fits -/
theorem fit_s {oc oc' : Nat → Int64} (hT : ordT (HC F R) (wkC F R) os) {i v : Nat} (hi : os[i]? = some v) (hoc : ∀ u : Nat, u ≠ v → oc' u = oc u) (h1 : ∀ u ∈ os.take i, fit F R oc u) (h2 : HC F R v v → oc' v = 10000000000000003) (h3 : ¬ HC F R v v → oc' v = val F R oc (v % 4) (pl F (v / 4))) : ∀ u ∈ os.take (i + 1), fit F R oc' u := by
  have hil : i < os.length := (List.getElem?_eq_some_iff.mp hi).1
  have hvW := hT.2.1 v (List.mem_of_getElem? hi)
  have hnot : v ∉ os.take i := by
    intro hm
    obtain ⟨j, hj⟩ := List.mem_iff_getElem?.mp hm
    have hjl := (List.getElem?_eq_some_iff.mp hj).1
    rw [List.length_take] at hjl
    rw [List.getElem?_take_of_lt (by omega)] at hj
    have := (List.getElem?_inj (by omega) hT.1).mp (hj.trans hi.symm)
    omega
  have gen : ∀ u : Nat, u ∈ os → (∀ w : Nat, HC F R u w → wkC F R w → w ∈ os.take i ∨ False) → ¬ HC F R u u → val F R oc' (u % 4) (pl F (u / 4)) = val F R oc (u % 4) (pl F (u / 4)) := by
    intro u hu hw hc
    refine val_c (fun w hw2 => hoc w fun e => ?_)
    subst e
    have hD : DC F R u w := ⟨(hT.2.1 u hu).1, hw2⟩
    rcases hw w (Relation.TransGen.single hD) hvW.1 with h | h
    · exact hnot h
    · exact h
  intro u hu
  rw [List.take_add_one, hi] at hu
  rcases List.mem_append.mp hu with hu | hu
  · obtain ⟨f1, f2⟩ := h1 u hu
    have huv : u ≠ v := fun e => hnot (e ▸ hu)
    obtain ⟨j, hj⟩ := List.mem_iff_getElem?.mp hu
    have hjl := (List.getElem?_eq_some_iff.mp hj).1
    rw [List.length_take] at hjl
    rw [List.getElem?_take_of_lt (by omega)] at hj
    refine ⟨fun hc => by rw [hoc u huv]; exact f1 hc, fun hc => ?_⟩
    rw [hoc u huv, f2 hc]
    refine (gen u (List.mem_of_getElem? hj) (fun w a b => Or.inl ?_) hc).symm
    rcases hT.2.2 j u hj with h | h
    · exact absurd h hc
    · have := h w a b
      exact (List.take_subset_take_left os (by omega)) this
  · simp at hu
    subst hu
    refine ⟨h2, fun hc => ?_⟩
    rw [h3 hc]
    refine (gen u (List.mem_of_getElem? hi) (fun w a b => Or.inl ?_) hc).symm
    rcases hT.2.2 i u hi with h | h
    · exact absurd h hc
    · exact h w a b
theorem workOutAll_C (h : CR F R I it dyn) (hoc : ∀ u : Nat, okO (J 6 u)) : S_X6_workOutAll ht I A J it dyn ∧ (∀ n : Nat, n ≠ 6 → n ≠ 7 → (L_X6_workOutAll_J ht I A J it dyn) n = J n) ∧ (∀ q : Nat, q ≠ 6 → (L_X6_workOutAll_I ht I A J it dyn) q = I q) ∧ (∀ n : Nat, n ≠ 8 → (L_X6_workOutAll_A ht I A J it dyn) n = A n) ∧ (∃ os, lnk F R os (L_X6_workOutAll_I ht I A J it dyn) (L_X6_workOutAll_A ht I A J it dyn) (L_X6_workOutAll_J ht I A J it dyn)) ∧ (∀ u : Nat, ¬ wkC F R u → (L_X6_workOutAll_J ht I A J it dyn) 6 u = J 6 u) ∧ (∀ u : Nat, wkC F R u → fit F R ((L_X6_workOutAll_J ht I A J it dyn) 6) u) ∧ ∀ u : Nat, okO ((L_X6_workOutAll_J ht I A J it dyn) 6 u) := by
  obtain ⟨l1, l2, l3, os, l4, l5, l6⟩ := link_C (ht := ht) (A := A) (J := J) h
  unfold S_X6_workOutAll L_X6_workOutAll_I L_X6_workOutAll_A L_X6_workOutAll_J
  generalize L_X6_link_I ht I A J it dyn = I1 at *
  generalize L_X6_link_A ht I A J it dyn = A1 at *
  generalize L_X6_link_J ht I A J it dyn = J1 at *
  have hos : os.length ≤ 64 := nd_len 64 os l5.1 (fun x hx => (l5.2.1 x hx).2)
  have hI : ∀ q : Nat, q ≠ 6 → I1 q = I q := fun q hq => by rw [l4.2.2.1 q hq, upd_n _ _ hq]
  have h1 : CR F R I1 it dyn := ⟨⟨h.1.1, h.1.2.1, by rw [hI 4 (by decide)]; exact h.1.2.2.1, by rw [hI 5 (by decide)]; exact h.1.2.2.2.1, h.1.2.2.2.2⟩, h.2⟩
  have r := lp (F := fun n J' v => Lb_X6_workOutAll_6_J n ht I1 A1 J' it dyn v) (SF := fun n J' v => S_Lb_X6_workOutAll_6 n ht I1 A1 J' it dyn v) os.length
    (fun i J' => (∀ n : Nat, n ≠ 6 → J' n = J1 n) ∧ (∀ u : Nat, u ∉ os.take i → J' 6 u = J1 6 u) ∧ (∀ u ∈ os.take i, fit F R (J' 6) u) ∧ ∀ u : Nat, okO (J' 6 u))
    (fun J' i => L_X6_workOut_J ht I1 A1 J' it dyn (A1 8 i)) ?_ ?_ os.length 70 0 J1 (by omega) (by omega) ⟨fun _ _ => rfl, fun _ _ => rfl, fun u hu => by simp at hu, fun u => by rw [l2 6 (by decide)]; exact hoc u⟩
  · obtain ⟨s2, q1, q2, q3, q4⟩ := r
    have s2 : S_Lb_X6_workOutAll_6 70 ht I1 A1 J1 it dyn 0 := s2
    have q1 : ∀ n : Nat, n ≠ 6 → (Lb_X6_workOutAll_6_J 70 ht I1 A1 J1 it dyn 0) n = J1 n := q1
    have q2 : ∀ u : Nat, u ∉ os.take os.length → (Lb_X6_workOutAll_6_J 70 ht I1 A1 J1 it dyn 0) 6 u = J1 6 u := q2
    have q3 : ∀ u ∈ os.take os.length, fit F R ((Lb_X6_workOutAll_6_J 70 ht I1 A1 J1 it dyn 0) 6) u := q3
    have q4 : ∀ u : Nat, okO ((Lb_X6_workOutAll_6_J 70 ht I1 A1 J1 it dyn 0) 6 u) := q4
    generalize Lb_X6_workOutAll_6_J 70 ht I1 A1 J1 it dyn 0 = J2 at *
    rw [List.take_of_length_le (Nat.le_refl _)] at q2 q3
    refine ⟨⟨l1, s2⟩, fun n a b => by rw [q1 n a]; exact l2 n b, hI, l4.2.2.2, ⟨os, ?_, l4.1, l4.2.1, l5, l6⟩, fun u hu => ?_, fun u hu => q3 u (l6 u hu), q4⟩
    · intro v hv u
      rw [q1 7 (by decide)]
      exact l3 v hv u
    · rw [q2 u (fun hm => hu (l5.2.1 u hm).1), l2 6 (by decide)]
  · rintro n J' i hi ⟨q1, q2, q3, q4⟩
    left
    obtain ⟨v, hv⟩ : ∃ v, os[i]? = some v := ⟨_, List.getElem?_eq_getElem hi⟩
    have hvW := (l5.2.1 v (List.mem_of_getElem? hv)).1
    have hA8 := l4.2.1 i v hv
    obtain ⟨w1, o, w2, w3, w4, w5⟩ := wo_C (ht := ht) (A := A1) h1 (fun v hv u => by rw [q1 7 (by decide)]; exact l3 v hv u) q4 hvW
    have zl : ¬ nI os.length ≤ nI i := by rw [nI_leI (by omega) (by omega)]; omega
    rw [Lb_X6_workOutAll_6_J, S_Lb_X6_workOutAll_6]
    simp only [l4.1, if_neg zl, nI_clamp (show i < 2 ^ 31 by omega), nI_1, hA8]
    refine ⟨trivial, ?_, fun hh _ => ⟨i64 (by omega), w1, hh⟩⟩
    rw [w2]
    have e6 : ∀ u : Nat, u ≠ v → (va_up J' 6 (vp_updL (J' 6) v o)) 6 u = J' 6 u := fun u hu => by simp [va_up, vp_updL, hu]
    have e6v : (va_up J' 6 (vp_updL (J' 6) v o)) 6 v = o := by simp [va_up, vp_updL]
    refine ⟨fun n hn => by simp [va_up, hn]; exact q1 n hn, fun u hu => ?_, fit_s l5 hv e6 q3 (fun hc => by rw [e6v]; exact w3 hc) (fun hc => by rw [e6v]; exact w4 hc), fun u => ?_⟩
    · rw [List.take_add_one, hv] at hu
      simp at hu
      rw [e6 u (fun e => hu.2 e)]
      exact q2 u hu.1
    · by_cases e : u = v
      · subst e; rw [e6v]; exact w5
      · rw [e6 u e]; exact q4 u
  · rintro n J' hP
    have zl : nI os.length ≤ nI os.length := by rw [nI_leI (by omega) (by omega)]; omega
    rw [Lb_X6_workOutAll_6_J, S_Lb_X6_workOutAll_6]
    simp only [l4.1, if_pos zl]
    exact ⟨trivial, fun h => absurd zl h⟩
end SV
