/-! NAMES: all of them, both sides -/
def nmOK (F : List aItem) : Prop := ∀ (k : Nat) (x : aItem), F[k]? = some x → nOKL F x.2.2.1 x.2.2.2.2
/-- the class's form with its names found -/
def rsC (F : List aItem) (it : Nat → Option Nat) (dyn : fsH) : Prop := ∀ (k : Nat) (x : aItem), F[k]? = some x → ∃ r D : Nat, it k = some (r + 41) ∧ dyn[r]? = some (icell D x) ∧ ∀ (j : Nat) (q : aPart), x.2.2.2.2[j]? = some q → ∃ i : Int32, dyn[D + j]? = some (pcellI D q i) ∧ ((q.1 = 1 ∨ q.1 = 2) → i = fnd F q.2.1 F.length 0)
theorem last_get (l : List aPart) (q : aPart) : (l ++ [q])[l.length]? = some q := by simp
theorem PT_q {n : Nat} : ∀ {P : Nat} {l : List aPart}, PT n P l → ∀ q ∈ l, ((q.1 = 1 ∨ q.1 = 2) → 27 ≤ q.2.1 ∧ q.2.1 ≤ 728) ∧ (q.1 = 0 ∨ q.1 = 1 ∨ q.1 = 2 ∨ opS q.1 ∨ q.1 = 63) ∧ (q.1 = 0 → q.2.2.2.2 < 10 ^ 9) := by
  induction n with
  | zero => intro P l h; exact absurd h id
  | succ n ih =>
    intro P l h q hq
    rcases h with ⟨v, hv, rfl⟩ | ⟨o, nm, ho, hn1, hn2, rfl⟩ | ⟨s, l1, l2, hs, h1, h2, rfl⟩ | ⟨l1, l2, l3, h1, h2, h3, rfl⟩
    · simp at hq; subst hq
      exact ⟨fun h => by simp at h, Or.inl rfl, fun _ => hv⟩
    · simp at hq; subst hq
      refine ⟨fun _ => ⟨hn1, hn2⟩, by simp only; omega, fun h => by simp only at h; omega⟩
    · simp only [List.mem_append, List.mem_singleton] at hq
      rcases hq with (hq | hq) | rfl
      · exact ih h1 q hq
      · exact ih h2 q hq
      · have hs2 := hs
        unfold opS at hs2
        exact ⟨fun h => by simp only at h; omega, Or.inr (Or.inr (Or.inr (Or.inl hs))), fun h => by simp only at h; omega⟩
    · simp only [List.mem_append, List.mem_singleton] at hq
      rcases hq with ((hq | hq) | hq) | rfl
      · exact ih h1 q hq
      · exact ih h2 q hq
      · exact ih h3 q hq
      · exact ⟨fun h => by simp at h, Or.inr (Or.inr (Or.inr (Or.inr rfl))), fun h => by simp at h⟩
theorem PT_rng {l : List aPart} (h : l = [] ∨ PT 7 0 l) {q : aPart} (hq : q ∈ l) (hn : q.1 = 1 ∨ q.1 = 2) : 27 ≤ q.2.1 ∧ q.2.1 ≤ 728 := by
  rcases h with rfl | h
  · simp at hq
  · exact (PT_q h q hq).1 hn
section RN
variable {ht : Nat} {F : List aItem} {R : Nat} {I : Nat → Int32} {A : Nat → Nat → Int32} {J : Nat → Nat → Int64} {it : Nat → Option Nat} {f : Int32 → Int32}
theorem res_op {dyn : fsH} {D a m : Nat} {q : aPart} {i x2 : Int32} {r1 r2 r3 : Option Nat} {o1 o2 o3 : Prop} (h : dyn[a]? = some (pcellI D q i)) (hq1 : ¬ (q.1 = 1 ∨ q.1 = 2)) (hq2 : fs_dI dyn (some (a + 41)) 0 ≠ 97) (hq3 : fs_dI dyn (some (a + 41)) 0 ≠ 35)
    (e1 : r1 = (if q.1 = 0 then none else if q.1 = 1 then none else if q.1 = 2 then none else some (D + q.2.1 + 41))) (e2 : r2 = (if q.1 = 0 then none else if q.1 = 1 then none else if q.1 = 2 then none else some (D + q.2.2.1 + 41))) (e3 : r3 = (if q.1 = 63 then some (D + q.2.2.2.1 + 41) else none))
    {d1 d2 d3 : fsH} (hd1 : (T_X1_resolve m ht I A J it dyn r1 x2).2.1 = d1) (hd2 : (T_X1_resolve m ht I A J it d1 r2 x2).2.1 = d2) (hd3 : (T_X1_resolve m ht I A J it d2 r3 x2).2.1 = d3)
    (t1 : (T_X1_resolve m ht I A J it dyn r1 x2).2.2 ∧ dynR f dyn d1 ∧ (o1 → (T_X1_resolve m ht I A J it dyn r1 x2).1 = 1) ∧ (¬ o1 → (T_X1_resolve m ht I A J it dyn r1 x2).1 = 0))
    (t2 : (T_X1_resolve m ht I A J it d1 r2 x2).2.2 ∧ dynR f d1 d2 ∧ (o2 → (T_X1_resolve m ht I A J it d1 r2 x2).1 = 1) ∧ (¬ o2 → (T_X1_resolve m ht I A J it d1 r2 x2).1 = 0))
    (t3 : (T_X1_resolve m ht I A J it d2 r3 x2).2.2 ∧ dynR f d2 d3 ∧ (o3 → (T_X1_resolve m ht I A J it d2 r3 x2).1 = 1) ∧ (¬ o3 → (T_X1_resolve m ht I A J it d2 r3 x2).1 = 0)) :
    (T_X1_resolve (m + 1) ht I A J it dyn (some (a + 41)) x2).2.2 ∧ dynR f dyn (T_X1_resolve (m + 1) ht I A J it dyn (some (a + 41)) x2).2.1 ∧ (o1 → o2 → o3 → (T_X1_resolve (m + 1) ht I A J it dyn (some (a + 41)) x2).1 = 1 ∧ (T_X1_resolve (m + 1) ht I A J it dyn (some (a + 41)) x2).2.1 = d3) ∧ (¬ (o1 ∧ o2 ∧ o3) → (T_X1_resolve (m + 1) ht I A J it dyn (some (a + 41)) x2).1 = 0) := by
  obtain ⟨p1, p2, p3, p4, p5, p6, p7, p8⟩ := pc_ok h
  obtain ⟨i1, c1, _⟩ := t1.2.1.cell h
  obtain ⟨i2, c2, _⟩ := t2.2.1.cell c1
  obtain ⟨u1, u2, u3, u4, u5, u6, u7, u8⟩ := pc_ok c1
  obtain ⟨w1, w2, w3, w4, w5, w6, w7, w8⟩ := pc_ok c2
  rw [← e1] at p6
  rw [← e2] at u7
  rw [← e3] at w8
  rw [T_X1_resolve]
  unfold L_X1_resolve_st_r L_X1_resolve_st_dyn S_X1_resolve_st
  simp only [reduceCtorEq, if_false, if_neg hq2, if_neg hq3, p6, hd1, u7, hd2, w8, hd3, not_false_eq_true, true_implies]
  have z1 : ¬ (1 : Int32) = 0 := by decide
  refine ⟨⟨p1, fun h => absurd h hq2, fun _ => ⟨p1, fun h => absurd h hq3, fun _ => ⟨p1, t1.1, fun _ => ⟨u1, t2.1, fun _ => ⟨w1, t3.1⟩⟩⟩⟩⟩, ?_, ?_, ?_⟩
  · split
    · exact t1.2.1
    · split
      · exact t1.2.1.tr t2.2.1
      · exact (t1.2.1.tr t2.2.1).tr t3.2.1
  · intro h1 h2 h3
    rw [t1.2.2.1 h1, t2.2.2.1 h2, t3.2.2.1 h3, if_neg z1, if_neg z1, if_neg z1, if_neg z1, if_neg z1]
    exact ⟨rfl, rfl⟩
  · intro hn
    by_cases h1 : o1
    · rw [t1.2.2.1 h1, if_neg z1]
      by_cases h2 : o2
      · rw [t2.2.2.1 h2, if_neg z1]
        have h3 : ¬ o3 := fun h3 => hn ⟨h1, h2, h3⟩
        rw [t3.2.2.2 h3, if_pos rfl]
      · rw [t2.2.2.2 h2, if_pos rfl]
    · rw [t1.2.2.2 h1, if_pos rfl]
theorem T_none' {dyn : fsH} {m : Nat} (hm : 0 < m) (x2 : Int32) : (T_X1_resolve m ht I A J it dyn none x2).2.1 = dyn ∧ ((T_X1_resolve m ht I A J it dyn none x2).2.2 ∧ dynR f dyn dyn ∧ (True → (T_X1_resolve m ht I A J it dyn none x2).1 = 1) ∧ (¬ True → (T_X1_resolve m ht I A J it dyn none x2).1 = 0)) := by
  obtain ⟨m, rfl⟩ : ∃ n', m = n' + 1 := ⟨m - 1, by omega⟩
  obtain ⟨a, b, c⟩ := T_none (ht := ht) (I := I) (A := A) (J := J) (it := it) (dyn := dyn) m x2
  exact ⟨b, c, dynR.rf, fun _ => a, fun h => absurd trivial h⟩
theorem nOKL_a {rep : Nat} {l1 l2 : List aPart} : nOKL F rep (l1 ++ l2) ↔ nOKL F rep l1 ∧ nOKL F rep l2 := by
  unfold nOKL
  constructor
  · intro h; exact ⟨fun q hq => h q (List.mem_append_left _ hq), fun q hq => h q (List.mem_append_right _ hq)⟩
  · rintro ⟨h1, h2⟩ q hq
    rcases List.mem_append.mp hq with hq | hq
    · exact h1 q hq
    · exact h2 q hq
theorem nOKL_1 {rep : Nat} {q : aPart} : nOKL F rep [q] ↔ nOK F rep q := by
  unfold nOKL
  simp
theorem opS_ne {s : Nat} (h : opS s ∨ s = 63) : s ≠ 0 ∧ s ≠ 1 ∧ s ≠ 2 ∧ nI s ≠ 97 ∧ nI s ≠ 35 ∧ s < 127 := by
  unfold opS at h
  rcases h with (rfl | rfl | rfl | rfl | rfl | rfl) | rfl <;> decide
theorem res_C (hf : ∀ n : Nat, 27 ≤ n ∧ n ≤ 728 → f (nI (cnm n)) = fnd F n F.length 0) {rep D : Nat} (hrep : rep ≤ 1) : ∀ (n P : Nat) (l : List aPart) (m : Nat) (dyn : fsH), PT n P l → n < m → CF F R I it dyn → pcl D P l dyn →
    (T_X1_resolve m ht I A J it dyn (some (D + P + (l.length - 1) + 41)) (nI rep)).2.2 ∧ dynR f dyn (T_X1_resolve m ht I A J it dyn (some (D + P + (l.length - 1) + 41)) (nI rep)).2.1 ∧ (nOKL F rep l → (T_X1_resolve m ht I A J it dyn (some (D + P + (l.length - 1) + 41)) (nI rep)).1 = 1 ∧ prs f D P l (T_X1_resolve m ht I A J it dyn (some (D + P + (l.length - 1) + 41)) (nI rep)).2.1) ∧ (¬ nOKL F rep l → (T_X1_resolve m ht I A J it dyn (some (D + P + (l.length - 1) + 41)) (nI rep)).1 = 0) := by
  intro n
  induction n with
  | zero => intro P l m dyn h; exact absurd h id
  | succ n ih =>
    intro P l m dyn h hm hC hp
    obtain ⟨m, rfl⟩ : ∃ n', m = n' + 1 := ⟨m - 1, by omega⟩
    have hm0 : 0 < m := by omega
    rcases h with ⟨v, _, rfl⟩ | ⟨o, nm, ho, hn1, hn2, rfl⟩ | ⟨s, l1, l2, hs, h1, h2, rfl⟩ | ⟨l1, l2, l3, h1, h2, h3, rfl⟩
    · obtain ⟨i, hi⟩ := hp 0 _ rfl
      have hi : dyn[D + P]? = some (pcellI D (0, 0, 0, 0, v) i) := hi
      obtain ⟨p1, p2, _⟩ := pc_ok hi
      have z : ¬ ((0 : Nat) = 1 ∨ (0 : Nat) = 2) := by decide
      obtain ⟨b, t⟩ := T_none' (ht := ht) (I := I) (A := A) (J := J) (it := it) (dyn := dyn) (f := f) hm0 (nI rep)
      obtain ⟨k1, k2, k3, k4⟩ := res_op (f := f) (o1 := True) (o2 := True) (o3 := True) (r1 := none) (r2 := none) (r3 := none) hi z (by rw [p2]; exact (by decide : (48 : Int32) ≠ 97)) (by rw [p2]; exact (by decide : (48 : Int32) ≠ 35)) rfl rfl rfl b b b t t t
      refine ⟨k1, k2, fun _ => ⟨(k3 trivial trivial trivial).1, ?_⟩, fun h => absurd ?_ h⟩
      · exact prs_1 z
      · rw [nOKL_1]; intro h; exact absurd h z
    · obtain ⟨i, hi⟩ := hp 0 _ rfl
      have hi : dyn[D + P]? = some (pcellI D (o, nm, 0, 0, 0) i) := hi
      obtain ⟨k1, k2, k3, k4⟩ := res_nm (ht := ht) (A := A) (J := J) (m := m) hC hf hrep ho ⟨hn1, hn2⟩ hi
      rw [nOKL_1]
      refine ⟨k1, k2, fun h => ⟨(k3 h).1, ?_⟩, k4⟩
      intro j q hj hq
      cases j with
      | zero => simp at hj; subst hj; exact (k3 h).2
      | succ j => simp at hj
    · have e1 := PT_ne h1
      have e2 := PT_ne h2
      obtain ⟨z0, z1, z2, z97, z35, _⟩ := opS_ne (Or.inl hs)
      have hs63 : s ≠ 63 := by unfold opS at hs; omega
      obtain ⟨i, hi⟩ := hp (l1.length + l2.length) (s, P + l1.length - 1, P + l1.length + l2.length - 1, 0, 0) (by rw [List.getElem?_append_right (by simp)]; simp)
      have hlen : (l1 ++ l2 ++ [(s, P + l1.length - 1, P + l1.length + l2.length - 1, 0, 0)]).length - 1 = l1.length + l2.length := by simp
      rw [hlen]
      obtain ⟨p1, p2, _⟩ := pc_ok hi
      have p2 : fs_dI dyn (some (D + P + (l1.length + l2.length) + 41)) 0 = nI s := by rw [p2]; simp [z0, z1, z2]
      have z : ¬ (s = 1 ∨ s = 2) := by omega
      have hp12 := pcl_l hp
      obtain ⟨a1, a2, a3, a4⟩ := ih P l1 m dyn h1 (by omega) hC (pcl_l hp12)
      generalize hd1 : (T_X1_resolve m ht I A J it dyn (some (D + P + (l1.length - 1) + 41)) (nI rep)).2.1 = d1 at a2 a3
      have hC1 := hC.dynR a2
      obtain ⟨b1, b2, b3, b4⟩ := ih (P + l1.length) l2 m d1 h2 (by omega) hC1 (a2.pcl (pcl_r hp12))
      generalize hd2 : (T_X1_resolve m ht I A J it d1 (some (D + (P + l1.length) + (l2.length - 1) + 41)) (nI rep)).2.1 = d2 at b2 b3
      obtain ⟨c, t⟩ := T_none' (ht := ht) (I := I) (A := A) (J := J) (it := it) (dyn := d2) (f := f) hm0 (nI rep)
      obtain ⟨k1, k2, k3, k4⟩ := res_op (f := f) (o1 := nOKL F rep l1) (o2 := nOKL F rep l2) (o3 := True) (r1 := some (D + P + (l1.length - 1) + 41)) (r2 := some (D + (P + l1.length) + (l2.length - 1) + 41)) (r3 := none) hi z (by rw [p2]; exact z97) (by rw [p2]; exact z35) (by simp only [if_neg z0, if_neg z1, if_neg z2]; congr 1; omega) (by simp only [if_neg z0, if_neg z1, if_neg z2]; congr 1; omega) (by simp only [if_neg hs63]) hd1 hd2 c ⟨a1, a2, fun h => (a3 h).1, a4⟩ ⟨b1, b2, fun h => (b3 h).1, b4⟩ t
      have hall : nOKL F rep (l1 ++ l2 ++ [(s, P + l1.length - 1, P + l1.length + l2.length - 1, 0, 0)]) ↔ nOKL F rep l1 ∧ nOKL F rep l2 := by
        rw [nOKL_a, nOKL_a, nOKL_1]
        exact ⟨fun h => h.1, fun h => ⟨h, fun h => absurd h z⟩⟩
      rw [hall]
      refine ⟨k1, k2, fun h => ?_, fun h => k4 fun h2 => h ⟨h2.1, h2.2.1⟩⟩
      obtain ⟨g1, g2⟩ := k3 h.1 h.2 trivial
      refine ⟨g1, ?_⟩
      rw [g2]
      exact prs_a (prs_a (b2.prs (a3 h.1).2) (b3 h.2).2) (prs_1 z)
    · have e1 := PT_ne h1
      have e2 := PT_ne h2
      have e3 := PT_ne h3
      have z0 : ¬ (63 : Nat) = 0 := by decide
      have z1 : ¬ (63 : Nat) = 1 := by decide
      have z2 : ¬ (63 : Nat) = 2 := by decide
      obtain ⟨i, hi⟩ := hp (l1.length + l2.length + l3.length) (63, P + l1.length - 1, P + l1.length + l2.length - 1, P + l1.length + l2.length + l3.length - 1, 0) (by rw [show l1.length + l2.length + l3.length = (l1 ++ l2 ++ l3).length by simp [Nat.add_assoc]]; exact last_get _ _)
      have hlen : (l1 ++ l2 ++ l3 ++ [(63, P + l1.length - 1, P + l1.length + l2.length - 1, P + l1.length + l2.length + l3.length - 1, 0)]).length - 1 = l1.length + l2.length + l3.length := by simp; omega
      rw [hlen]
      obtain ⟨p1, p2, _⟩ := pc_ok hi
      have p2 : fs_dI dyn (some (D + P + (l1.length + l2.length + l3.length) + 41)) 0 = nI 63 := by rw [p2]; simp
      have z : ¬ ((63 : Nat) = 1 ∨ (63 : Nat) = 2) := by decide
      have hp123 := pcl_l hp
      have hp12 := pcl_l hp123
      obtain ⟨a1, a2, a3, a4⟩ := ih P l1 m dyn h1 (by omega) hC (pcl_l hp12)
      generalize hd1 : (T_X1_resolve m ht I A J it dyn (some (D + P + (l1.length - 1) + 41)) (nI rep)).2.1 = d1 at a2 a3
      have hC1 := hC.dynR a2
      obtain ⟨b1, b2, b3, b4⟩ := ih (P + l1.length) l2 m d1 h2 (by omega) hC1 (a2.pcl (pcl_r hp12))
      generalize hd2 : (T_X1_resolve m ht I A J it d1 (some (D + (P + l1.length) + (l2.length - 1) + 41)) (nI rep)).2.1 = d2 at b2 b3
      have hC2 := hC1.dynR b2
      have hp3 := pcl_r hp123
      rw [List.length_append, ← Nat.add_assoc] at hp3
      obtain ⟨c1, c2, c3, c4⟩ := ih (P + l1.length + l2.length) l3 m d2 h3 (by omega) hC2 (b2.pcl (a2.pcl hp3))
      generalize hd3 : (T_X1_resolve m ht I A J it d2 (some (D + (P + l1.length + l2.length) + (l3.length - 1) + 41)) (nI rep)).2.1 = d3 at c2 c3
      obtain ⟨k1, k2, k3, k4⟩ := res_op (f := f) (o1 := nOKL F rep l1) (o2 := nOKL F rep l2) (o3 := nOKL F rep l3) (r1 := some (D + P + (l1.length - 1) + 41)) (r2 := some (D + (P + l1.length) + (l2.length - 1) + 41)) (r3 := some (D + (P + l1.length + l2.length) + (l3.length - 1) + 41)) hi z (by rw [p2]; decide) (by rw [p2]; decide) (by simp only [if_neg z0, if_neg z1, if_neg z2]; congr 1; omega) (by simp only [if_neg z0, if_neg z1, if_neg z2]; congr 1; omega) (by simp only [if_true]; congr 1; omega) hd1 hd2 hd3 ⟨a1, a2, fun h => (a3 h).1, a4⟩ ⟨b1, b2, fun h => (b3 h).1, b4⟩ ⟨c1, c2, fun h => (c3 h).1, c4⟩
      have hall : nOKL F rep (l1 ++ l2 ++ l3 ++ [(63, P + l1.length - 1, P + l1.length + l2.length - 1, P + l1.length + l2.length + l3.length - 1, 0)]) ↔ nOKL F rep l1 ∧ nOKL F rep l2 ∧ nOKL F rep l3 := by
        rw [nOKL_a, nOKL_a, nOKL_a, nOKL_1]
        exact ⟨fun h => ⟨h.1.1.1, h.1.1.2, h.1.2⟩, fun h => ⟨⟨⟨h.1, h.2.1⟩, h.2.2⟩, fun h => absurd h z⟩⟩
      rw [hall]
      refine ⟨k1, k2, fun h => ?_, fun h => k4 fun h2 => h h2⟩
      obtain ⟨g1, g2⟩ := k3 h.1 h.2.1 h.2.2
      refine ⟨g1, ?_⟩
      rw [g2]
      have hl12 := prs_a (b2.prs (a3 h.1).2) (b3 h.2.1).2
      have h3' := (c3 h.2.2).2
      refine prs_a (prs_a (c2.prs hl12) ?_) (prs_1 z)
      rw [List.length_append, ← Nat.add_assoc]
      exact h3'
/-- an item's names, found -/
def rsI (f : Int32 → Int32) (it : Nat → Option Nat) (dyn : fsH) (k : Nat) (x : aItem) : Prop := ∃ r D : Nat, it k = some (r + 41) ∧ dyn[r]? = some (icell D x) ∧ pcl D 0 x.2.2.2.2 dyn ∧ prs f D 0 x.2.2.2.2 dyn
theorem rsI.dynR {dyn dyn' : fsH} {k : Nat} {x : aItem} (h : rsI f it dyn k x) (hd : dynR f dyn dyn') : rsI f it dyn' k x := by
  obtain ⟨r, D, e1, e2, e3, e4⟩ := h
  exact ⟨r, D, e1, hd.item e2, hd.pcl e3, hd.prs e4⟩
theorem resN_C (hf : ∀ n : Nat, 27 ≤ n ∧ n ≤ 728 → f (nI (cnm n)) = fnd F n F.length 0) : ∀ (m n k : Nat) (dyn : fsH), k + m = F.length → m < n → CF F R I it dyn → (∀ (j : Nat) (x : aItem), j < k → F[j]? = some x → rsI f it dyn j x ∧ nOKL F x.2.2.1 x.2.2.2.2) →
    S_La_X1_resolveNames_2 n ht I A J it dyn (nI k) ∧ dynR f dyn (La_X1_resolveNames_2_dyn n ht I A J it dyn (nI k)) ∧ (nmOK F → La_X1_resolveNames_2_r n ht I A J it dyn (nI k) = 1 ∧ ∀ (j : Nat) (x : aItem), F[j]? = some x → rsI f it (La_X1_resolveNames_2_dyn n ht I A J it dyn (nI k)) j x) ∧ (¬ nmOK F → La_X1_resolveNames_2_r n ht I A J it dyn (nI k) = 0) := by
  intro m
  induction m with
  | zero =>
    intro n k dyn hm hn hC hj
    have hl := hC.1.1
    obtain ⟨n, rfl⟩ : ∃ n', n = n' + 1 := ⟨n - 1, by omega⟩
    have zl : nI F.length ≤ nI k := by rw [nI_leI (by omega) (by omega)]; omega
    rw [La_X1_resolveNames_2_r, La_X1_resolveNames_2_dyn, S_La_X1_resolveNames_2, hC.2.2.1]
    simp only [if_pos zl]
    refine ⟨fun h => absurd zl h, dynR.rf, fun _ => ⟨trivial, fun j x hx => (hj j x (by have := F_lt hx; omega) hx).1⟩, fun h => absurd ?_ h⟩
    intro j x hx
    exact (hj j x (by have := F_lt hx; omega) hx).2
  | succ m ih =>
    intro n k dyn hm hn hC hj
    have hl := hC.1.1
    obtain ⟨n, rfl⟩ : ∃ n', n = n' + 1 := ⟨n - 1, by omega⟩
    have zl : ¬ nI F.length ≤ nI k := by rw [nI_leI (by omega) (by omega)]; omega
    obtain ⟨x, hx⟩ := F_some (F := F) (k := k) (by omega)
    obtain ⟨r, D, f1, f2, f3⟩ := hC.2.1 k x hx
    obtain ⟨a1, a2, a3, a4, a5, a6⟩ := icell_ok f2
    have w := hC.1.2 k x hx
    have hin : vp_in (nI k) 16 := nI_in (by omega) (by omega)
    have hpc : pcl D 0 x.2.2.2.2 dyn := fun j q hq => f3 j q hq
    rw [La_X1_resolveNames_2_r, La_X1_resolveNames_2_dyn, S_La_X1_resolveNames_2, hC.2.2.1]
    simp only [if_neg zl, nI_clamp (show k < 2 ^ 31 by omega), f1, a5, a4, nI_1]
    have key : S_X1_resolve ht I A J it dyn (if x.2.2.2.2 = [] then none else some (D + (x.2.2.2.2.length - 1) + 41)) (nI x.2.2.1) ∧ dynR f dyn (L_X1_resolve_dyn ht I A J it dyn (if x.2.2.2.2 = [] then none else some (D + (x.2.2.2.2.length - 1) + 41)) (nI x.2.2.1)) ∧ (nOKL F x.2.2.1 x.2.2.2.2 → L_X1_resolve_r ht I A J it dyn (if x.2.2.2.2 = [] then none else some (D + (x.2.2.2.2.length - 1) + 41)) (nI x.2.2.1) = 1 ∧ prs f D 0 x.2.2.2.2 (L_X1_resolve_dyn ht I A J it dyn (if x.2.2.2.2 = [] then none else some (D + (x.2.2.2.2.length - 1) + 41)) (nI x.2.2.1))) ∧ (¬ nOKL F x.2.2.1 x.2.2.2.2 → L_X1_resolve_r ht I A J it dyn (if x.2.2.2.2 = [] then none else some (D + (x.2.2.2.2.length - 1) + 41)) (nI x.2.2.1) = 0) := by
      unfold S_X1_resolve L_X1_resolve_r L_X1_resolve_dyn
      by_cases h0 : x.2.2.2.2 = []
      · rw [if_pos h0, h0]
        obtain ⟨b, t⟩ := T_none' (ht := ht) (I := I) (A := A) (J := J) (it := it) (dyn := dyn) (f := f) (m := 10) (by decide) (nI x.2.2.1)
        refine ⟨t.1, by rw [b]; exact dynR.rf, fun _ => ⟨t.2.2.1 trivial, fun j q hq => by simp at hq⟩, fun h => absurd ?_ h⟩
        intro q hq
        simp at hq
      · rw [if_neg h0]
        exact res_C hf w.2.2.1 7 0 x.2.2.2.2 10 dyn (w.2.2.2.2.2.1.resolve_left h0) (by decide) hC hpc
    generalize (if x.2.2.2.2 = [] then none else some (D + (x.2.2.2.2.length - 1) + 41)) = rf at *
    obtain ⟨k1, k2, k3, k4⟩ := key
    by_cases hok : nOKL F x.2.2.1 x.2.2.2.2
    · obtain ⟨g1, g2⟩ := k3 hok
      have z1 : ¬ (1 : Int32) = 0 := by decide
      simp only [g1, if_neg z1]
      generalize L_X1_resolve_dyn ht I A J it dyn rf (nI x.2.2.1) = d1 at *
      have hC1 := hC.dynR k2
      obtain ⟨i1, i2, i3, i4⟩ := ih n (k + 1) d1 (by omega) (by omega) hC1 (fun j y hjk hy => by
        by_cases e : j = k
        · subst e
          cases hx.symm.trans hy
          exact ⟨⟨r, D, f1, k2.item f2, k2.pcl hpc, g2⟩, hok⟩
        · exact ⟨(hj j y (by omega) hy).1.dynR k2, (hj j y (by omega) hy).2⟩)
      exact ⟨fun _ => ⟨hin, a1, hin, a1, k1, fun _ => i1⟩, k2.tr i2, i3, i4⟩
    · simp only [k4 hok, if_true]
      refine ⟨fun _ => ⟨hin, a1, hin, a1, k1, fun h => absurd trivial h⟩, k2, fun h => absurd (h k x hx) hok, fun _ => trivial⟩
theorem resolveNames_C {dyn : fsH} (hC : CF F R I it dyn) : S_X1_resolveNames ht I A J it dyn ∧ CF F R I it (L_X1_resolveNames_dyn ht I A J it dyn) ∧ (nmOK F → L_X1_resolveNames_r ht I A J it dyn = 1 ∧ rsC F it (L_X1_resolveNames_dyn ht I A J it dyn)) ∧ (¬ nmOK F → L_X1_resolveNames_r ht I A J it dyn = 0) := by
  have hf : ∀ n : Nat, 27 ≤ n ∧ n ≤ 728 → (fun c => L_X1_fieldNamed_r ht I A J it dyn c) (nI (cnm n)) = fnd F n F.length 0 := fun n hn => (fieldNamed_C hC hn).1
  have hl := hC.1.1
  obtain ⟨a, b, c, d⟩ := resN_C (ht := ht) (A := A) (J := J) hf F.length 70 0 dyn (by omega) (by omega) hC (fun j x hj => by omega)
  refine ⟨a, hC.dynR b, fun h => ⟨(c h).1, fun k x hx => ?_⟩, d⟩
  obtain ⟨r, D, e1, e2, e3, e4⟩ := (c h).2 k x hx
  refine ⟨r, D, e1, e2, fun j q hq => ?_⟩
  by_cases hn : q.1 = 1 ∨ q.1 = 2
  · have hrange : 27 ≤ q.2.1 ∧ q.2.1 ≤ 728 := PT_rng (hC.1.2 k x hx).2.2.2.2.2.1 (List.mem_of_getElem? hq) hn
    refine ⟨_, by have := e4 j q hq hn; rw [Nat.add_zero] at this; exact this, fun _ => hf _ hrange⟩
  · obtain ⟨i, hi⟩ := e3 j q hq
    rw [Nat.add_zero] at hi
    exact ⟨i, hi, fun h => absurd h hn⟩
end RN
