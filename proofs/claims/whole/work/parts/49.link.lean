/-! WHAT HANGS ON WHAT IN A CLOSED FORM: the class -/
def wkC (F : List aItem) (R v : Nat) : Prop := v < 64 ∧ v % 4 < rw1 F R (v / 4) ∧ pl F (v / 4) ≠ []
def DC (F : List aItem) (R v u : Nat) : Prop := wkC F R v ∧ nmL F R (v % 4) (pl F (v / 4)) u
section LK
variable {ht : Nat} {F : List aItem} {R : Nat} {I : Nat → Int32} {A : Nat → Nat → Int32} {J : Nat → Nat → Int64} {it : Nat → Option Nat} {dyn : fsH}
theorem acc {k : Nat} {x : aItem} (hx : F[k]? = some x) : kd F k = x.1 ∧ rp F k = x.2.2.1 ∧ pl F k = x.2.2.2.2 ∧ wd F k = x.2.2.2.1 ∧ nmF F k = x.2.1 := by
  unfold kd rp pl wd nmF
  rw [hx]
  exact ⟨rfl, rfl, rfl, rfl, rfl⟩
theorem rp_le (w : wfF F) (k : Nat) : rp F k ≤ 1 := by
  by_cases hk : k < F.length
  · obtain ⟨x, hx⟩ := F_some hk
    rw [(acc hx).2.1]
    exact (w.2 k x hx).2.2.1
  · unfold rp
    rw [F_none (by omega)]
    exact Nat.zero_le 1
theorem nmL_cell {rep r u : Nat} {l : List aPart} (hw : wfF F) (hR : R ≤ 4) (hok : nOKL F rep l) (hr : r < 4) (hrep : rep = 1 → r < R) (h : nmL F R r l u) : u < 64 ∧ kd F (u / 4) = 0 ∧ u % 4 < rw1 F R (u / 4) := by
  have hl := hw.1
  obtain ⟨q, hq, h2⟩ := h
  rcases h2 with ⟨e, h2⟩ | ⟨e, i, hi, h2⟩
  · obtain ⟨o1, o2, o3, o4, o5⟩ := nOK_g hl (hok q hq) (Or.inl e)
    have hrow : (if rp F (fg F q.2.1) = 0 then 0 else r) < rw1 F R (fg F q.2.1) := by
      unfold rw1
      rw [if_pos o2]
      by_cases h0 : rp F (fg F q.2.1) = 0
      · rw [if_pos h0, if_pos h0]; omega
      · have h1 : rp F (fg F q.2.1) = 1 := by have := rp_le hw (fg F q.2.1); omega
        rw [if_neg h0, if_neg h0]; exact hrep (o5 e h1)
    have h4 : (if rp F (fg F q.2.1) = 0 then 0 else r) < 4 := by split <;> omega
    generalize (if rp F (fg F q.2.1) = 0 then 0 else r) = r' at *
    subst h2
    refine ⟨by omega, ?_, ?_⟩
    · rw [show (4 * fg F q.2.1 + r') / 4 = fg F q.2.1 by omega]; exact o3
    · rw [show (4 * fg F q.2.1 + r') / 4 = fg F q.2.1 by omega, show (4 * fg F q.2.1 + r') % 4 = r' by omega]; exact hrow
  · obtain ⟨o1, o2, o3, o4, o5⟩ := nOK_g hl (hok q hq) (Or.inr e)
    subst h2
    refine ⟨by omega, ?_, ?_⟩
    · rw [show (4 * fg F q.2.1 + i) / 4 = fg F q.2.1 by omega]; exact o3
    · rw [show (4 * fg F q.2.1 + i) / 4 = fg F q.2.1 by omega, show (4 * fg F q.2.1 + i) % 4 = i by omega]
      unfold rw1
      rw [if_pos o2, if_neg (by have := o4 e; omega)]
      exact hi
theorem tg_c {D D' : Nat → Nat → Prop} (h : ∀ v : Nat, v < 64 → ∀ u : Nat, D v u ↔ D' v u) (h1 : ∀ v u : Nat, D v u → u < 64) {v u : Nat} (hv : v < 64) : Relation.TransGen D v u → Relation.TransGen D' v u ∧ u < 64 := by
  intro ht
  induction ht with
  | single h2 => exact ⟨Relation.TransGen.single ((h v hv _).mp h2), h1 _ _ h2⟩
  | tail _ h2 ih => exact ⟨Relation.TransGen.tail ih.1 ((h _ ih.2 _).mp h2), h1 _ _ h2⟩
theorem CR.at (h : CR F R I it dyn) {k : Nat} {x : aItem} (hx : F[k]? = some x) : ∃ D : Nat, fs_okI dyn (it k) ∧ fs_dR dyn (it k) 3 = (if x.2.2.2.2 = [] then none else some (D + 0 + (x.2.2.2.2.length - 1) + 41)) ∧ pcR F D 0 x.2.2.2.2 dyn ∧ wfI x ∧ k < 16 ∧ nOKL F x.2.2.1 x.2.2.2.2 := by
  obtain ⟨r, D, e1, e2, e3⟩ := h.2.2 k x hx
  obtain ⟨a1, a2, a3, a4, a5, a6⟩ := icell_ok e2
  have hl := F_lt hx
  have hw := h.1.1.1
  rw [e1]
  exact ⟨D, a1, a5, fun j q hj => e3 j q hj, h.1.1.2 k x hx, by omega, h.2.1 k x hx⟩
theorem fill7 (x : Int64) : S_J7_fillJ_7 ht I A J it dyn x ∧ (∀ v : Nat, v < 64 → (L_J7_fillJ_7_J ht I A J it dyn x) 7 v = x) ∧ ∀ n : Nat, n ≠ 7 → (L_J7_fillJ_7_J ht I A J it dyn x) n = J n := by
  refine lp (F := fun n J' v => Lb_J7_fillJ_7_6_J n ht I A J' it dyn x v 64) (SF := fun n J' v => S_Lb_J7_fillJ_7_6 n ht I A J' it dyn x v 64) 64 (fun b J' => (∀ v : Nat, v < b → J' 7 v = x) ∧ ∀ n : Nat, n ≠ 7 → J' n = J n) (fun J' i => va_up J' 7 (vp_updL (J' 7) i x)) ?_ ?_ 64 70 0 J rfl (by decide) ⟨fun v hv => by omega, fun _ _ => rfl⟩
  · intro n J' i hi hP
    left
    simp only [Lb_J7_fillJ_7_6_J, S_Lb_J7_fillJ_7_6, if_neg (n64 hi), c64 hi, nI_1]
    refine ⟨trivial, ⟨fun v hv => ?_, fun n hn => by simp [va_up, hn]; exact hP.2 n hn⟩, fun h _ => ⟨i64 hi, h⟩⟩
    by_cases e : v = i
    · subst e; simp [va_up, vp_updL]
    · simp [va_up, vp_updL, e]; exact hP.1 v (by omega)
  · intro n J' hP
    simp only [Lb_J7_fillJ_7_6_J, S_Lb_J7_fillJ_7_6, if_pos n64e]
    exact ⟨trivial, fun h => absurd n64e h⟩
def lkP (F : List aItem) (R : Nat) (J0 : Nat → Nat → Int64) (k i : Nat) (J : Nat → Nat → Int64) (w : Int64) : Prop :=
  (∀ v : Nat, v < 64 → ∀ u : Nat, bt (J 7 v) u ↔ (v < 4 * k ∨ (v / 4 = k ∧ v % 4 < i)) ∧ DC F R v u) ∧ (∀ u : Nat, bt w u ↔ (u < 4 * k ∨ (u / 4 = k ∧ u % 4 < i)) ∧ wkC F R u) ∧ ∀ n : Nat, n ≠ 7 → J n = J0 n
theorem lk_40 (h : CR F R I it dyn) {J0 : Nat → Nat → Int64} {k : Nat} {x : aItem} (hx : F[k]? = some x) {w : Int64} (hP : lkP F R J0 k 0 J w) : S_Lb_X6_link_40 70 ht I A J it dyn w (nI k) (fs_dR dyn (it k) 3) 0 ∧ lkP F R J0 (k + 1) 0 (Lb_X6_link_40_J 70 ht I A J it dyn w (nI k) (fs_dR dyn (it k) 3) 0) (Lb_X6_link_40_v1 70 ht I A J it dyn w (nI k) (fs_dR dyn (it k) 3) 0) := by
  have hl := h.1.1.1
  have hR := h.1.2.2.2.2
  obtain ⟨D, a1, a2, a3, wf, k16, hok⟩ := h.at hx
  obtain ⟨c1, c2, c3, _⟩ := acc hx
  have r3 := fun (J : Nat → Nat → Int64) => (rep_C (ht := ht) (A := A) (J := J) h.1 (k := k) (by omega)).2.2.1
  have r4 := fun (J : Nat → Nat → Int64) => (rep_C (ht := ht) (A := A) (J := J) h.1 (k := k) (by omega)).2.2.2.1
  have r6 := (rep_C (ht := ht) (A := A) (J := J) h.1 (k := k) (by omega)).2.2.2.2.2
  have fin : ∀ (J' : Nat → Nat → Int64) (w' : Int64), (x.2.2.2.2 = [] ∧ lkP F R J0 k 0 J' w') ∨ lkP F R J0 k (rw1 F R k) J' w' → lkP F R J0 (k + 1) 0 J' w' := by
    intro J' w' hh
    rcases hh with ⟨h0, q1, q2, q3⟩ | ⟨q1, q2, q3⟩
    · have hno : ∀ v : Nat, v / 4 = k → ¬ wkC F R v := fun v hv hw => by
        obtain ⟨_, _, w3⟩ := hw
        rw [hv, c3] at w3
        exact w3 h0
      refine ⟨fun v hv u => ?_, fun u => ?_, q3⟩
      · rw [q1 v hv u]
        constructor
        · rintro ⟨a | a, b⟩
          · exact ⟨Or.inl (by omega), b⟩
          · omega
        · rintro ⟨a | a, b⟩
          · by_cases e : v / 4 = k
            · exact absurd b.1 (hno v e)
            · exact ⟨Or.inl (by omega), b⟩
          · omega
      · rw [q2 u]
        constructor
        · rintro ⟨a | a, b⟩
          · exact ⟨Or.inl (by omega), b⟩
          · omega
        · rintro ⟨a | a, b⟩
          · by_cases e : u / 4 = k
            · exact absurd b (hno u e)
            · exact ⟨Or.inl (by omega), b⟩
          · omega
    · refine ⟨fun v hv u => ?_, fun u => ?_, q3⟩
      · rw [q1 v hv u]
        constructor
        · rintro ⟨a | a, b⟩
          · exact ⟨Or.inl (by omega), b⟩
          · exact ⟨Or.inl (by omega), b⟩
        · rintro ⟨a | a, b⟩
          · by_cases e : v / 4 = k
            · have := b.1.2.1
              rw [e] at this
              exact ⟨Or.inr ⟨e, this⟩, b⟩
            · exact ⟨Or.inl (by omega), b⟩
          · omega
      · rw [q2 u]
        constructor
        · rintro ⟨a | a, b⟩
          · exact ⟨Or.inl (by omega), b⟩
          · exact ⟨Or.inl (by omega), b⟩
        · rintro ⟨a | a, b⟩
          · by_cases e : u / 4 = k
            · have := b.2.1
              rw [e] at this
              exact ⟨Or.inr ⟨e, this⟩, b⟩
            · exact ⟨Or.inl (by omega), b⟩
          · omega
  by_cases h0 : x.2.2.2.2 = []
  · have z : fs_dR dyn (it k) 3 = none := by rw [a2, if_pos h0]
    rw [z]
    have e : ∀ n : Nat, Lb_X6_link_40_J (n + 1) ht I A J it dyn w (nI k) none 0 = J ∧ Lb_X6_link_40_v1 (n + 1) ht I A J it dyn w (nI k) none 0 = w ∧ S_Lb_X6_link_40 (n + 1) ht I A J it dyn w (nI k) none 0 := by
      intro n
      rw [Lb_X6_link_40_J, Lb_X6_link_40_v1, S_Lb_X6_link_40]
      simp only [if_true]
      refine ⟨?_, ?_, r4 J, fun _ h => absurd trivial h⟩
      · split <;> rfl
      · split <;> rfl
    obtain ⟨e1, e2, e3⟩ := e 69
    rw [e1, e2]
    exact ⟨e3, fin J w (Or.inl ⟨h0, hP⟩)⟩
  · have z : fs_dR dyn (it k) 3 = some (D + 0 + (x.2.2.2.2.length - 1) + 41) := by rw [a2, if_neg h0]
    rw [z]
    have hPT : PT 7 0 x.2.2.2.2 := wf.2.2.2.2.2.1.resolve_left h0
    have r := lp (S := (Nat → Nat → Int64) × Int64) (F := fun n s v => (Lb_X6_link_40_J n ht I A s.1 it dyn s.2 (nI k) (some (D + 0 + (x.2.2.2.2.length - 1) + 41)) v, Lb_X6_link_40_v1 n ht I A s.1 it dyn s.2 (nI k) (some (D + 0 + (x.2.2.2.2.length - 1) + 41)) v)) (SF := fun n s v => S_Lb_X6_link_40 n ht I A s.1 it dyn s.2 (nI k) (some (D + 0 + (x.2.2.2.2.length - 1) + 41)) v) (rw1 F R k)
      (fun i s => lkP F R J0 k i s.1 s.2)
      (fun s i => (va_up s.1 7 (vp_updL (s.1 7) (4 * k + i) (L_X6_cellsNamed_r ht I A s.1 it dyn (some (D + 0 + (x.2.2.2.2.length - 1) + 41)) (nI i))), s.2 ||| sb (4 * k + i)))
      ?_ ?_ (rw1 F R k) 70 0 (J, w) (by omega) (by omega) hP
    · dsimp only at r
      exact ⟨r.1, fin _ _ (Or.inr r.2)⟩
    · rintro n ⟨J1, w1⟩ i hi ⟨q1, q2, q3⟩
      left
      dsimp only at q1 q2 q3 ⊢
      have zl : ¬ nI (rw1 F R k) ≤ nI i := by rw [nI_leI (by omega) (by omega)]; omega
      have hs : ∀ J2 : Nat → Nat → Int64, L_X6_setOf_r ht I A J2 it dyn (nI (4 * k + i)) = sb (4 * k + i) := fun _ => rfl
      have hin : vp_in (nI (4 * k + i)) 64 := nI_in (by omega) (by omega)
      obtain ⟨t1, t2⟩ := cn_C (ht := ht) (A := A) (J := J1) h.1 (r := i) (by omega) 7 0 x.2.2.2.2 10 hPT (by decide) a3 hok
      rw [Lb_X6_link_40_J, Lb_X6_link_40_v1, S_Lb_X6_link_40]
      simp only [r3, if_neg zl, reduceCtorEq, if_false, cellOf_C, nI_clamp (show 4 * k + i < 2 ^ 31 by omega), hs, nI_1]
      have hwk : wkC F R (4 * k + i) := ⟨by omega, by rw [show (4 * k + i) % 4 = i by omega, show (4 * k + i) / 4 = k by omega]; exact hi, by rw [show (4 * k + i) / 4 = k by omega, c3]; exact h0⟩
      refine ⟨trivial, ⟨fun v hv u => ?_, fun u => ?_, fun n hn => by simp [va_up, hn]; exact q3 n hn⟩, fun hh => ⟨r4 J1, fun _ _ => ⟨t1, hin, hh⟩⟩⟩
      · by_cases e : v = 4 * k + i
        · subst e
          have : (va_up J1 7 (vp_updL (J1 7) (4 * k + i) (L_X6_cellsNamed_r ht I A J1 it dyn (some (D + 0 + (x.2.2.2.2.length - 1) + 41)) (nI i)))) 7 (4 * k + i) = L_X6_cellsNamed_r ht I A J1 it dyn (some (D + 0 + (x.2.2.2.2.length - 1) + 41)) (nI i) := by simp [va_up, vp_updL]
          rw [this]
          have t2 : bt (L_X6_cellsNamed_r ht I A J1 it dyn (some (D + 0 + (x.2.2.2.2.length - 1) + 41)) (nI i)) u ↔ nmL F R i x.2.2.2.2 u := t2 u
          rw [t2]
          unfold DC
          rw [show (4 * k + i) % 4 = i by omega, show (4 * k + i) / 4 = k by omega, c3]
          exact ⟨fun h => ⟨Or.inr ⟨rfl, by omega⟩, hwk, h⟩, fun h => h.2.2⟩
        · have : (va_up J1 7 (vp_updL (J1 7) (4 * k + i) (L_X6_cellsNamed_r ht I A J1 it dyn (some (D + 0 + (x.2.2.2.2.length - 1) + 41)) (nI i)))) 7 v = J1 7 v := by simp [va_up, vp_updL, e]
          rw [this, q1 v hv u]
          constructor
          · rintro ⟨a | a, b⟩
            · exact ⟨Or.inl a, b⟩
            · exact ⟨Or.inr ⟨a.1, by omega⟩, b⟩
          · rintro ⟨a | a, b⟩
            · exact ⟨Or.inl a, b⟩
            · exact ⟨Or.inr ⟨a.1, by omega⟩, b⟩
      · rw [bt_or, q2 u, bt_sb (by omega)]
        constructor
        · rintro (⟨a | a, b⟩ | a)
          · exact ⟨Or.inl a, b⟩
          · exact ⟨Or.inr ⟨a.1, by omega⟩, b⟩
          · subst a; exact ⟨Or.inr ⟨by omega, by omega⟩, hwk⟩
        · rintro ⟨a | a, b⟩
          · exact Or.inl ⟨Or.inl a, b⟩
          · by_cases e : u = 4 * k + i
            · exact Or.inr e
            · exact Or.inl ⟨Or.inr ⟨a.1, by omega⟩, b⟩
    · rintro n ⟨J1, w1⟩ hP1
      have zl : nI (rw1 F R k) ≤ nI (rw1 F R k) := by rw [nI_leI (by omega) (by omega)]; omega
      dsimp only
      rw [Lb_X6_link_40_J, Lb_X6_link_40_v1, S_Lb_X6_link_40]
      simp only [r3, if_pos zl]
      exact ⟨trivial, r4 J1, fun h => absurd zl h⟩
theorem link_C (h : CR F R I it dyn) : S_X6_link ht I A J it dyn ∧ (∀ n : Nat, n ≠ 7 → (L_X6_link_J ht I A J it dyn) n = J n) ∧ (∀ v : Nat, v < 64 → ∀ u : Nat, bt ((L_X6_link_J ht I A J it dyn) 7 v) u ↔ Relation.TransGen (DC F R) v u) ∧ ∃ os, ordR os (upd I 6 0) A (L_X6_link_I ht I A J it dyn) (L_X6_link_A ht I A J it dyn) ∧ ordT (fun v u => Relation.TransGen (DC F R) v u) (wkC F R) os ∧ ∀ u : Nat, wkC F R u → u ∈ os := by
  have hl := h.1.1.1
  have hR := h.1.2.2.2.2
  obtain ⟨f1, f2, f3⟩ := fill7 (ht := ht) (I := I) (A := A) (J := J) (it := it) (dyn := dyn) 0
  unfold S_X6_link L_X6_link_J L_X6_link_I L_X6_link_A
  generalize L_J7_fillJ_7_J ht I A J it dyn 0 = J1 at *
  have r := lp (S := (Nat → Nat → Int64) × Int64) (F := fun n s v => (Lb_X6_link_12_J n ht I A s.1 it dyn s.2 v, Lb_X6_link_12_v1 n ht I A s.1 it dyn s.2 v)) (SF := fun n s v => S_Lb_X6_link_12 n ht I A s.1 it dyn s.2 v) F.length
    (fun k s => lkP F R J1 k 0 s.1 s.2)
    (fun s k => (Lb_X6_link_40_J 70 ht I A s.1 it dyn s.2 (nI k) (fs_dR dyn (it k) 3) 0, Lb_X6_link_40_v1 70 ht I A s.1 it dyn s.2 (nI k) (fs_dR dyn (it k) 3) 0))
    ?_ ?_ F.length 70 0 (J1, 0) (by omega) (by omega) ⟨fun v hv u => by show bt (J1 7 v) u ↔ _; rw [f2 v hv]; exact ⟨fun h => absurd h (bt_0 u), fun h => by omega⟩, fun u => ⟨fun h => absurd h (bt_0 u), fun h => by omega⟩, fun _ _ => rfl⟩
  · dsimp only at r
    obtain ⟨s2, q1, q2, q3⟩ := r
    have q1' : ∀ v : Nat, v < 64 → ∀ u : Nat, bt ((Lb_X6_link_12_J 70 ht I A J1 it dyn 0 0) 7 v) u ↔ DC F R v u := fun v hv u => by
      refine (q1 v hv u).trans ⟨fun h => h.2, fun h => ⟨Or.inl ?_, h⟩⟩
      have := h.1.2.1
      unfold rw1 at this
      split at this
      · omega
      · omega
    have q2' : ∀ u : Nat, bt (Lb_X6_link_12_v1 70 ht I A J1 it dyn 0 0) u ↔ wkC F R u := fun u => by
      refine (q2 u).trans ⟨fun h => h.2, fun h => ⟨Or.inl ?_, h⟩⟩
      have := h.2.1
      unfold rw1 at this
      split at this
      · omega
      · omega
    have q3' : ∀ n : Nat, n ≠ 7 → (Lb_X6_link_12_J 70 ht I A J1 it dyn 0 0) n = J1 n := q3
    have s2' : S_Lb_X6_link_12 70 ht I A J1 it dyn 0 0 := s2
    generalize Lb_X6_link_12_J 70 ht I A J1 it dyn 0 0 = J2 at *
    generalize Lb_X6_link_12_v1 70 ht I A J1 it dyn 0 0 = w2 at *
    obtain ⟨g1, g2, g3⟩ := follow_C (ht := ht) (I := I) (A := A) (J := J2) (it := it) (dyn := dyn)
    generalize L_X6_followHangs_J ht I A J2 it dyn = J3 at *
    have g2' : ∀ v : Nat, v < 64 → ∀ u : Nat, bt (J3 7 v) u ↔ Relation.TransGen (DC F R) v u := fun v hv u => by
      rw [g2 v hv u]
      constructor
      · intro ht2
        exact (tg_c (D := fun v u => bt (J2 7 v) u) (D' := DC F R) q1' (fun v u h => bt_lt h) hv ht2).1
      · intro ht2
        have hlt : ∀ v u : Nat, DC F R v u → u < 64 := fun v u hd => bt_lt ((q1' v hd.1.1 u).mpr hd)
        exact (tg_c (D := DC F R) (D' := fun v u => bt (J2 7 v) u) (fun v hv u => (q1' v hv u).symm) hlt hv ht2).1
    have hHW : ∀ v u : Nat, v < 64 → bt (J3 7 v) u → bt w2 v := fun v u hv hb => by
      rw [q2' v]
      have ht2 := (g2' v hv u).mp hb
      clear hb
      induction ht2 with
      | single h2 => exact h2.1
      | tail _ _ ih => exact ih
    obtain ⟨o1, os, o2, o3, o4⟩ := order_C (ht := ht) (I0 := I) (A0 := A) (J := J3) (it := it) (dyn := dyn) (W := w2) (fun a b c ha hb hc => (g2' a ha c).mpr (Relation.TransGen.trans ((g2' a ha b).mp hb) ((g2' b (bt_lt hb) c).mp hc))) hHW
    refine ⟨⟨f1, s2', g1, o1⟩, fun n hn => by rw [g3 n hn, q3' n hn]; exact f3 n hn, g2', os, o2, ⟨o3.1, fun v hv => ⟨(q2' v).mp (o3.2.1 v hv).1, (o3.2.1 v hv).2⟩, fun i v hv => ?_⟩, fun u hu => o4 u ((q2' u).mpr hu)⟩
    have hv64 := (o3.2.1 v (List.mem_of_getElem? hv)).2
    rcases o3.2.2 i v hv with h2 | h2
    · exact Or.inl ((g2' v hv64 v).mp h2)
    · exact Or.inr fun u a b => h2 u ((g2' v hv64 u).mpr a) ((q2' u).mpr b)
  · rintro n ⟨J2, w2⟩ k hk hP
    left
    dsimp only at hP ⊢
    obtain ⟨x, hx⟩ := F_some hk
    obtain ⟨D, a1, _⟩ := h.at hx
    obtain ⟨k1, k2⟩ := lk_40 (ht := ht) (A := A) h hx hP
    have zl : ¬ nI F.length ≤ nI k := by rw [nI_leI (by omega) (by omega)]; omega
    have hin : vp_in (nI k) 16 := nI_in (by omega) (by omega)
    rw [Lb_X6_link_12_J, Lb_X6_link_12_v1, S_Lb_X6_link_12]
    simp only [h.1.2.2.1, if_neg zl, nI_clamp (show k < 2 ^ 31 by omega), nI_1]
    exact ⟨trivial, k2, fun hh _ => ⟨hin, a1, k1, hh⟩⟩
  · rintro n ⟨J2, w2⟩ hP
    have zl : nI F.length ≤ nI F.length := by rw [nI_leI (by omega) (by omega)]; omega
    dsimp only
    rw [Lb_X6_link_12_J, Lb_X6_link_12_v1, S_Lb_X6_link_12]
    simp only [h.1.2.2.1, if_pos zl]
    exact ⟨trivial, fun h => absurd zl h⟩
end LK
