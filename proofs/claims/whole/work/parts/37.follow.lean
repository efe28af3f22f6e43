/-! LOOPS THAT COUNT UP, and what hangs on what, both sides -/
theorem lp {S : Type} {F : Nat → S → Int32 → S} {SF : Nat → S → Int32 → Prop} (N : Nat) (P : Nat → S → Prop) (step : S → Nat → S)
    (h1 : ∀ (n : Nat) (s : S) (i : Nat), i < N → P i s → (F (n + 1) s (nI i) = F n (step s i) (nI (i + 1)) ∧ P (i + 1) (step s i) ∧ (SF n (step s i) (nI (i + 1)) → SF (n + 1) s (nI i))) ∨ (F (n + 1) s (nI i) = s ∧ SF (n + 1) s (nI i) ∧ P N s))
    (h2 : ∀ (n : Nat) (s : S), P N s → F (n + 1) s (nI N) = s ∧ SF (n + 1) s (nI N)) :
    ∀ (k n i : Nat) (s : S), i + k = N → k < n → P i s → SF n s (nI i) ∧ P N (F n s (nI i)) := by
  intro k
  induction k with
  | zero =>
    intro n i s hk hn hp
    obtain ⟨n, rfl⟩ : ∃ n', n = n' + 1 := ⟨n - 1, by omega⟩
    obtain rfl : i = N := by omega
    rw [(h2 n s hp).1]
    exact ⟨(h2 n s hp).2, hp⟩
  | succ k ih =>
    intro n i s hk hn hp
    obtain ⟨n, rfl⟩ : ∃ n', n = n' + 1 := ⟨n - 1, by omega⟩
    rcases h1 n s i (by omega) hp with ⟨e, p, q⟩ | ⟨e, p, q⟩
    · obtain ⟨a, b⟩ := ih n (i + 1) (step s i) (by omega) (by omega) p
      rw [e]
      exact ⟨q a, b⟩
    · rw [e]
      exact ⟨p, q⟩
theorem n64 {i : Nat} (h : i < 64) : ¬ (64 : Int32) ≤ nI i := by rw [iL 64, nI_leI (by omega) (by omega)]; omega
theorem n64e : (64 : Int32) ≤ nI 64 := by decide
theorem c64 {i : Nat} (h : i < 64) : (nI i).toNatClampNeg = i := nI_clamp (by omega)
theorem i64 {i : Nat} (h : i < 64) : vp_in (nI i) 64 := nI_in (by omega) (by omega)
section FW
variable {ht : Nat} {I : Nat → Int32} {A : Nat → Nat → Int32} {J : Nat → Nat → Int64} {it : Nat → Option Nat} {dyn : fsH}
theorem hangsOn_C {v u : Nat} (hv : v < 64) (hu : u < 64) : (L_X6_hangsOn_r ht I A J it dyn (nI v) (nI u) = 0 ↔ ¬ bt (J 7 v) u) ∧ S_X6_hangsOn ht I A J it dyn (nI v) (nI u) := by
  unfold L_X6_hangsOn_r S_X6_hangsOn L_X6_setOf_r
  rw [c64 hv]
  refine ⟨?_, i64 hv⟩
  by_cases h : lg_cmp (J 7 v &&& (1 <<< ((nI u).toInt64 &&& 63))) 0 = 0
  · rw [if_pos h]
    exact ⟨fun _ => (bt_C _ hu).mp h, fun _ => rfl⟩
  · rw [if_neg h]
    exact ⟨fun h2 => absurd h2 (by decide), fun h2 => absurd ((bt_C _ hu).mpr h2) h⟩
def fhP (J0 : Nat → Nat → Int64) (b i : Nat) (J : Nat → Nat → Int64) : Prop := (∀ v u : Nat, bt (J 7 v) u ↔ bt (J0 7 v) u ∨ (v < i ∧ bt (J0 7 v) b ∧ bt (J0 7 b) u)) ∧ ∀ n : Nat, n ≠ 7 → J n = J0 n
theorem fh_in {b : Nat} (hb : b < 64) : S_Lb_X6_followHangs_10 70 ht I A J it dyn (nI b) 0 ∧ fhP J b 64 (Lb_X6_followHangs_10_J 70 ht I A J it dyn (nI b) 0) := by
  refine lp (F := fun n J' v => Lb_X6_followHangs_10_J n ht I A J' it dyn (nI b) v) (SF := fun n J' v => S_Lb_X6_followHangs_10 n ht I A J' it dyn (nI b) v) 64 (fhP J b) (fun J' i => if L_X6_hangsOn_r ht I A J' it dyn (nI i) (nI b) = 0 then J' else va_up J' 7 (vp_updL (J' 7) i ((J' 7 i) ||| (J' 7 b)))) ?_ ?_ 64 70 0 J rfl (by decide) ⟨fun v u => ⟨Or.inl, fun h => h.elim id (fun h => by omega)⟩, fun _ _ => rfl⟩
  · intro n J' i hi hP
    obtain ⟨g1, g2⟩ := hangsOn_C (ht := ht) (I := I) (A := A) (J := J') (it := it) (dyn := dyn) hi hb
    by_cases hz : lg_cmp (J' 7 b) 0 = 0
    · right
      simp only [Lb_X6_followHangs_10_J, S_Lb_X6_followHangs_10, if_neg (n64 hi), c64 hb, if_pos hz]
      refine ⟨trivial, fun _ => ⟨i64 hb, fun h => absurd hz h⟩, fun v u => ?_, hP.2⟩
      have hno : ∀ u : Nat, ¬ bt (J 7 b) u := fun u h => (bt_z _).mp hz u ((hP.1 b u).mpr (Or.inl h))
      rw [hP.1 v u]
      exact ⟨fun h => h.elim Or.inl (fun h => absurd h.2.2 (hno u)), fun h => h.elim Or.inl (fun h => absurd h.2.2 (hno u))⟩
    · left
      simp only [Lb_X6_followHangs_10_J, S_Lb_X6_followHangs_10, if_neg (n64 hi), c64 hb, c64 hi, if_neg hz, nI_1]
      refine ⟨trivial, ?_, fun h => fun _ => ⟨i64 hb, fun _ => ⟨g2, fun _ => ⟨i64 hi, i64 hb, i64 hi⟩, h⟩⟩⟩
      have eb : ∀ u : Nat, bt (J' 7 b) u ↔ bt (J 7 b) u := fun u => by
        rw [hP.1 b u]
        exact ⟨fun h => h.elim id (fun h => h.2.2), Or.inl⟩
      have ei : ∀ u : Nat, bt (J' 7 i) u ↔ bt (J 7 i) u := fun u => by
        rw [hP.1 i u]
        exact ⟨fun h => h.elim id (fun h => absurd h.1 (by omega)), Or.inl⟩
      by_cases hh : L_X6_hangsOn_r ht I A J' it dyn (nI i) (nI b) = 0
      · rw [if_pos hh]
        have hn : ¬ bt (J 7 i) b := fun h => g1.mp hh ((ei b).mpr h)
        refine ⟨fun v u => ?_, hP.2⟩
        rw [hP.1 v u]
        constructor
        · rintro (h | ⟨h1, h2, h3⟩)
          · exact Or.inl h
          · exact Or.inr ⟨by omega, h2, h3⟩
        · rintro (h | ⟨h1, h2, h3⟩)
          · exact Or.inl h
          · by_cases e : v = i
            · subst e; exact absurd h2 hn
            · exact Or.inr ⟨by omega, h2, h3⟩
      · rw [if_neg hh]
        have hy : bt (J 7 i) b := (ei b).mp (Classical.byContradiction fun h => hh (g1.mpr h))
        refine ⟨fun v u => ?_, fun n hn => by simp [va_up, hn]; exact hP.2 n hn⟩
        by_cases e : v = i
        · subst e
          have : (va_up J' 7 (vp_updL (J' 7) v ((J' 7 v) ||| (J' 7 b)))) 7 v = (J' 7 v) ||| (J' 7 b) := by simp [va_up, vp_updL]
          rw [this, bt_or, ei u, eb u]
          exact ⟨fun h => h.elim Or.inl (fun h => Or.inr ⟨by omega, hy, h⟩), fun h => h.elim Or.inl (fun h => Or.inr h.2.2)⟩
        · have : (va_up J' 7 (vp_updL (J' 7) i ((J' 7 i) ||| (J' 7 b)))) 7 v = J' 7 v := by simp [va_up, vp_updL, e]
          rw [this, hP.1 v u]
          constructor
          · rintro (h | ⟨h1, h2, h3⟩)
            · exact Or.inl h
            · exact Or.inr ⟨by omega, h2, h3⟩
          · rintro (h | ⟨h1, h2, h3⟩)
            · exact Or.inl h
            · exact Or.inr ⟨by omega, h2, h3⟩
  · intro n J' hP
    simp only [Lb_X6_followHangs_10_J, S_Lb_X6_followHangs_10, if_pos n64e]
    exact ⟨trivial, fun h => absurd n64e h⟩
theorem follow_C : S_X6_followHangs ht I A J it dyn ∧ (∀ v : Nat, v < 64 → ∀ u : Nat, bt ((L_X6_followHangs_J ht I A J it dyn) 7 v) u ↔ Relation.TransGen (fun v u => bt (J 7 v) u) v u) ∧ ∀ n : Nat, n ≠ 7 → (L_X6_followHangs_J ht I A J it dyn) n = J n := by
  have r : S_Lb_X6_followHangs_2 70 ht I A J it dyn 0 ∧ ((∀ v : Nat, v < 64 → ∀ u : Nat, bt ((Lb_X6_followHangs_2_J 70 ht I A J it dyn 0) 7 v) u ↔ wsh (fun v u => bt (J 7 v) u) 64 v u) ∧ ∀ n : Nat, n ≠ 7 → (Lb_X6_followHangs_2_J 70 ht I A J it dyn 0) n = J n) := by
    refine lp (F := fun n J' v => Lb_X6_followHangs_2_J n ht I A J' it dyn v) (SF := fun n J' v => S_Lb_X6_followHangs_2 n ht I A J' it dyn v) 64 (fun b J' => (∀ v : Nat, v < 64 → ∀ u : Nat, bt (J' 7 v) u ↔ wsh (fun v u => bt (J 7 v) u) b v u) ∧ ∀ n : Nat, n ≠ 7 → J' n = J n) (fun J' b => Lb_X6_followHangs_10_J 70 ht I A J' it dyn (nI b) 0) ?_ ?_ 64 70 0 J rfl (by decide) ⟨fun v _ u => Iff.rfl, fun _ _ => rfl⟩
    · intro n J' b hb hP
      left
      obtain ⟨f1, f2, f3⟩ := fh_in (ht := ht) (I := I) (A := A) (J := J') (it := it) (dyn := dyn) hb
      rw [Lb_X6_followHangs_2_J, S_Lb_X6_followHangs_2, if_neg (n64 hb), nI_1]
      refine ⟨rfl, ⟨fun v hv u => ?_, fun n hn => by rw [f3 n hn]; exact hP.2 n hn⟩, fun h _ => ⟨f1, h⟩⟩
      rw [f2 v u, hP.1 v hv u, hP.1 v hv b, hP.1 b hb u]
      exact ⟨fun h => h.elim Or.inl (fun h => Or.inr h.2), fun h => h.elim Or.inl (fun h => Or.inr ⟨hv, h⟩)⟩
    · intro n J' hP
      rw [Lb_X6_followHangs_2_J, S_Lb_X6_followHangs_2, if_pos n64e]
      exact ⟨rfl, fun h => absurd n64e h⟩
  refine ⟨r.1, fun v hv u => ?_, r.2.2⟩
  rw [← wsh_all (fun v u h => bt_lt h) v u]
  exact r.2.1 v hv u
/-- the reference: direct is a copy -/
theorem fo_2 : S_Lb_X8_follow_2 70 ht I A J it dyn 0 ∧ (∀ v : Nat, v < 64 → (Lb_X8_follow_2_J 70 ht I A J it dyn 0) 33 v = J 32 v) ∧ ∀ n : Nat, n ≠ 33 → (Lb_X8_follow_2_J 70 ht I A J it dyn 0) n = J n := by
  refine lp (F := fun n J' v => Lb_X8_follow_2_J n ht I A J' it dyn v) (SF := fun n J' v => S_Lb_X8_follow_2 n ht I A J' it dyn v) 64 (fun b J' => (∀ v : Nat, v < b → J' 33 v = J 32 v) ∧ ∀ n : Nat, n ≠ 33 → J' n = J n) (fun J' i => va_up J' 33 (vp_updL (J' 33) i (J' 32 i))) ?_ ?_ 64 70 0 J rfl (by decide) ⟨fun v hv => by omega, fun _ _ => rfl⟩
  · intro n J' i hi hP
    left
    simp only [Lb_X8_follow_2_J, S_Lb_X8_follow_2, if_neg (n64 hi), c64 hi, nI_1]
    refine ⟨trivial, ⟨fun v hv => ?_, fun n hn => by simp [va_up, hn]; exact hP.2 n hn⟩, fun h _ => ⟨i64 hi, i64 hi, h⟩⟩
    by_cases e : v = i
    · subst e; simp [va_up, vp_updL]; rw [hP.2 32 (by decide)]
    · simp [va_up, vp_updL, e]; exact hP.1 v (by omega)
  · intro n J' hP
    simp only [Lb_X8_follow_2_J, S_Lb_X8_follow_2, if_pos n64e]
    exact ⟨trivial, fun h => absurd n64e h⟩
theorem fo_52 {v1 : Int32} {v : Nat} (hv : v < 64) (x : Int64) : S_Lb_X8_follow_52 70 ht I A J it dyn v1 (nI v) x 0 ∧ ∀ u : Nat, bt (Lb_X8_follow_52_v3 70 ht I A J it dyn v1 (nI v) x 0) u ↔ bt x u ∨ ∃ w : Nat, w < 64 ∧ bt (J 32 v) w ∧ bt (J 32 w) u := by
  refine lp (S := Int64) (F := fun n y i => Lb_X8_follow_52_v3 n ht I A J it dyn v1 (nI v) y i) (SF := fun n y i => S_Lb_X8_follow_52 n ht I A J it dyn v1 (nI v) y i) 64 (fun b y => ∀ u : Nat, bt y u ↔ bt x u ∨ ∃ w : Nat, w < b ∧ bt (J 32 v) w ∧ bt (J 32 w) u) (fun y i => if lg_cmp (((J 32 v) >>> ((nI i).toInt64 &&& 63)) &&& 1) 1 = 0 then y ||| (J 32 i) else y) ?_ ?_ 64 70 0 x rfl (by decide) (fun u => ⟨Or.inl, fun h => h.elim id (fun ⟨w, h, _⟩ => by omega)⟩)
  · intro n y i hi hP
    left
    simp only [Lb_X8_follow_52_v3, S_Lb_X8_follow_52, if_neg (n64 hi), c64 hi, c64 hv, nI_1]
    refine ⟨trivial, fun u => ?_, fun h _ => ⟨i64 hv, fun _ => i64 hi, h⟩⟩
    by_cases hb : lg_cmp (((J 32 v) >>> ((nI i).toInt64 &&& 63)) &&& 1) 1 = 0
    · rw [if_pos hb, bt_or, hP u]
      have hb2 := (bt_M _ hi).mp hb
      constructor
      · rintro ((h | ⟨w, h1, h2⟩) | h)
        · exact Or.inl h
        · exact Or.inr ⟨w, by omega, h2⟩
        · exact Or.inr ⟨i, by omega, hb2, h⟩
      · rintro (h | ⟨w, h1, h2, h3⟩)
        · exact Or.inl (Or.inl h)
        · by_cases e : w = i
          · subst e; exact Or.inr h3
          · exact Or.inl (Or.inr ⟨w, by omega, h2, h3⟩)
    · rw [if_neg hb, hP u]
      have hb2 : ¬ bt (J 32 v) i := fun h => hb ((bt_M _ hi).mpr h)
      constructor
      · rintro (h | ⟨w, h1, h2⟩)
        · exact Or.inl h
        · exact Or.inr ⟨w, by omega, h2⟩
      · rintro (h | ⟨w, h1, h2, h3⟩)
        · exact Or.inl h
        · by_cases e : w = i
          · subst e; exact absurd h2 hb2
          · exact Or.inr ⟨w, by omega, h2, h3⟩
  · intro n y hP
    simp only [Lb_X8_follow_52_v3, S_Lb_X8_follow_52, if_pos n64e]
    exact ⟨trivial, fun h => absurd n64e h⟩
def foP (D : Nat → Nat → Prop) (J0 : Nat → Nat → Int64) (b : Nat) (J : Nat → Nat → Int64) : Prop := (∀ v u : Nat, bt (J0 32 v) u → bt (J 32 v) u) ∧ (∀ v : Nat, v < 64 → ∀ u : Nat, bt (J 32 v) u → Relation.TransGen D v u) ∧ (∀ v : Nat, v < b → ∀ w u : Nat, bt (J0 32 v) w → bt (J0 32 w) u → bt (J 32 v) u) ∧ ∀ n : Nat, n ≠ 32 → J n = J0 n
theorem fo_36 {D : Nat → Nat → Prop} {v1 : Int32} (hs : ∀ v : Nat, v < 64 → ∀ u : Nat, bt (J 32 v) u → Relation.TransGen D v u) : S_Lb_X8_follow_36 70 ht I A J it dyn v1 0 ∧ foP D J 64 (Lb_X8_follow_36_J 70 ht I A J it dyn v1 0) := by
  refine lp (F := fun n J' v => Lb_X8_follow_36_J n ht I A J' it dyn v1 v) (SF := fun n J' v => S_Lb_X8_follow_36 n ht I A J' it dyn v1 v) 64 (foP D J) (fun J' i => va_up J' 32 (vp_updL (J' 32) i (Lb_X8_follow_52_v3 70 ht I A J' it dyn v1 (nI i) (J' 32 i) 0))) ?_ ?_ 64 70 0 J rfl (by decide) ⟨fun _ _ h => h, hs, fun v hv => by omega, fun _ _ => rfl⟩
  · intro n J' i hi hP
    left
    obtain ⟨f1, f2⟩ := fo_52 (ht := ht) (I := I) (A := A) (J := J') (it := it) (dyn := dyn) (v1 := v1) hi (J' 32 i)
    simp only [Lb_X8_follow_36_J, S_Lb_X8_follow_36, if_neg (n64 hi), c64 hi, nI_1]
    obtain ⟨p1, p2, p3, p4⟩ := hP
    have ei : (va_up J' 32 (vp_updL (J' 32) i (Lb_X8_follow_52_v3 70 ht I A J' it dyn v1 (nI i) (J' 32 i) 0))) 32 i = Lb_X8_follow_52_v3 70 ht I A J' it dyn v1 (nI i) (J' 32 i) 0 := by simp [va_up, vp_updL]
    have en : ∀ v : Nat, v ≠ i → (va_up J' 32 (vp_updL (J' 32) i (Lb_X8_follow_52_v3 70 ht I A J' it dyn v1 (nI i) (J' 32 i) 0))) 32 v = J' 32 v := fun v hv => by simp [va_up, vp_updL, hv]
    refine ⟨trivial, ⟨fun v u h => ?_, fun v hv u h => ?_, fun v hv w u h1 h2 => ?_, fun n hn => by simp [va_up, hn]; exact p4 n hn⟩, fun h _ => ⟨i64 hi, f1, i64 hi, h⟩⟩
    · by_cases e : v = i
      · subst e; rw [ei, f2]; exact Or.inl (p1 v u h)
      · rw [en v e]; exact p1 v u h
    · by_cases e : v = i
      · subst e
        rw [ei, f2] at h
        rcases h with h | ⟨w, hw, h1, h2⟩
        · exact p2 v hv u h
        · exact Relation.TransGen.trans (p2 v hv w h1) (p2 w hw u h2)
      · rw [en v e] at h; exact p2 v hv u h
    · by_cases e : v = i
      · subst e
        rw [ei, f2]
        exact Or.inr ⟨w, bt_lt h1, p1 v w h1, p1 w u h2⟩
      · rw [en v e]; exact p3 v (by omega) w u h1 h2
  · intro n J' hP
    simp only [Lb_X8_follow_36_J, S_Lb_X8_follow_36, if_pos n64e]
    exact ⟨trivial, fun h => absurd n64e h⟩
theorem follow_M : S_X8_follow ht I A J it dyn ∧ (∀ v : Nat, v < 64 → ∀ u : Nat, bt ((L_X8_follow_J ht I A J it dyn) 32 v) u ↔ Relation.TransGen (fun v u => bt (J 32 v) u) v u) ∧ (∀ v : Nat, v < 64 → (L_X8_follow_J ht I A J it dyn) 33 v = J 32 v) ∧ ∀ n : Nat, n ≠ 32 → n ≠ 33 → (L_X8_follow_J ht I A J it dyn) n = J n := by
  obtain ⟨c1, c2, c3⟩ := fo_2 (ht := ht) (I := I) (A := A) (J := J) (it := it) (dyn := dyn)
  unfold L_X8_follow_J S_X8_follow
  generalize Lb_X8_follow_2_J 70 ht I A J it dyn 0 = J1 at *
  have r : S_Lb_X8_follow_28 70 ht I A J1 it dyn 0 ∧ ((∀ v : Nat, v < 64 → ∀ u : Nat, wsh (fun v u => bt (J 32 v) u) 64 v u → bt ((Lb_X8_follow_28_J 70 ht I A J1 it dyn 0) 32 v) u) ∧ (∀ v : Nat, v < 64 → ∀ u : Nat, bt ((Lb_X8_follow_28_J 70 ht I A J1 it dyn 0) 32 v) u → Relation.TransGen (fun v u => bt (J 32 v) u) v u) ∧ ∀ n : Nat, n ≠ 32 → (Lb_X8_follow_28_J 70 ht I A J1 it dyn 0) n = J1 n) := by
    refine lp (F := fun n J' v => Lb_X8_follow_28_J n ht I A J' it dyn v) (SF := fun n J' v => S_Lb_X8_follow_28 n ht I A J' it dyn v) 64 (fun b J' => (∀ v : Nat, v < 64 → ∀ u : Nat, wsh (fun v u => bt (J 32 v) u) b v u → bt (J' 32 v) u) ∧ (∀ v : Nat, v < 64 → ∀ u : Nat, bt (J' 32 v) u → Relation.TransGen (fun v u => bt (J 32 v) u) v u) ∧ ∀ n : Nat, n ≠ 32 → J' n = J1 n) (fun J' b => Lb_X8_follow_36_J 70 ht I A J' it dyn (nI b) 0) ?_ ?_ 64 70 0 J1 rfl (by decide) ⟨fun v _ u h => by rw [c3 32 (by decide)]; exact h, fun v _ u h => by rw [c3 32 (by decide)] at h; exact Relation.TransGen.single h, fun _ _ => rfl⟩
    · intro n J' b hb hP
      left
      obtain ⟨f1, g1, g2, g3, g4⟩ := fo_36 (ht := ht) (I := I) (A := A) (J := J') (it := it) (dyn := dyn) (v1 := nI b) hP.2.1
      rw [Lb_X8_follow_28_J, S_Lb_X8_follow_28, if_neg (n64 hb), nI_1]
      refine ⟨rfl, ⟨fun v hv u h => ?_, g2, fun n hn => by rw [g4 n hn]; exact hP.2.2 n hn⟩, fun h _ => ⟨f1, h⟩⟩
      rcases h with h | ⟨h1, h2⟩
      · exact g1 v u (hP.1 v hv u h)
      · exact g3 v hv b u (hP.1 v hv b h1) (hP.1 b hb u h2)
    · intro n J' hP
      rw [Lb_X8_follow_28_J, S_Lb_X8_follow_28, if_pos n64e]
      exact ⟨rfl, fun h => absurd n64e h⟩
  refine ⟨⟨c1, r.1⟩, fun v hv u => ⟨r.2.2.1 v hv u, fun h => r.2.1 v hv u ((wsh_all (fun v u h => bt_lt h) v u).mpr h)⟩, fun v hv => by rw [r.2.2.2 33 (by decide)]; exact c2 v hv, fun n h1 h2 => by rw [r.2.2.2 n h1]; exact c3 n h2⟩
end FW
