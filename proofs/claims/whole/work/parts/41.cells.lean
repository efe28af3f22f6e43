/-! WHICH CELLS AN EXPRESSION NAMES, both sides -/
def fg (F : List aItem) (nm : Nat) : Nat := (fnd F nm F.length 0).toNatClampNeg
def nmd (F : List aItem) (R r : Nat) (q : aPart) (u : Nat) : Prop := (q.1 = 1 ∧ u = 4 * fg F q.2.1 + (if rp F (fg F q.2.1) = 0 then 0 else r)) ∨ (q.1 = 2 ∧ ∃ i : Nat, i < R ∧ u = 4 * fg F q.2.1 + i)
def nmL (F : List aItem) (R r : Nat) (l : List aPart) (u : Nat) : Prop := ∃ q ∈ l, nmd F R r q u
/-- the cells of parts, names found -/
def pcR (F : List aItem) (D P : Nat) (l : List aPart) (dyn : fsH) : Prop := ∀ (j : Nat) (q : aPart), l[j]? = some q → ∃ i : Int32, dyn[D + P + j]? = some (pcellI D q i) ∧ ((q.1 = 1 ∨ q.1 = 2) → i = fnd F q.2.1 F.length 0)
/-- a closed form, the class -/
def CR (F : List aItem) (R : Nat) (I : Nat → Int32) (it : Nat → Option Nat) (dyn : fsH) : Prop := CF F R I it dyn ∧ nmOK F ∧ rsC F it dyn
section CN
variable {ht : Nat} {F : List aItem} {R : Nat} {I : Nat → Int32} {A : Nat → Nat → Int32} {J : Nat → Nat → Int64} {it : Nat → Option Nat} {dyn : fsH}
theorem nOK_g {rep : Nat} {q : aPart} (hl : F.length ≤ 16) (h : nOK F rep q) (hn : q.1 = 1 ∨ q.1 = 2) : fnd F q.2.1 F.length 0 = nI (fg F q.2.1) ∧ fg F q.2.1 < F.length ∧ kd F (fg F q.2.1) = 0 ∧ (q.1 = 2 → rp F (fg F q.2.1) = 1) ∧ (q.1 = 1 → rp F (fg F q.2.1) = 1 → rep = 1) := by
  obtain ⟨g, e, hg, h1, h2, h3⟩ := h hn
  have eg : fg F q.2.1 = g := by unfold fg; rw [e, nI_clamp (by omega)]
  rw [eg]
  exact ⟨e, hg, h1, h2, h3⟩
theorem pcR_l {D P : Nat} {l1 l2 : List aPart} (h : pcR F D P (l1 ++ l2) dyn) : pcR F D P l1 dyn := fun j q hj => h j q (by rw [List.getElem?_append_left (List.getElem?_eq_some_iff.mp hj).1]; exact hj)
theorem pcR_r {D P : Nat} {l1 l2 : List aPart} (h : pcR F D P (l1 ++ l2) dyn) : pcR F D (P + l1.length) l2 dyn := fun j q hj => by
  have := h (l1.length + j) q (by rw [List.getElem?_append_right (by omega)]; simpa using hj)
  rw [show D + (P + l1.length) + j = D + P + (l1.length + j) by omega]
  exact this
theorem nmL_a {r : Nat} {l1 l2 : List aPart} {u : Nat} : nmL F R r (l1 ++ l2) u ↔ nmL F R r l1 u ∨ nmL F R r l2 u := by
  unfold nmL
  constructor
  · rintro ⟨q, hq, h⟩
    rcases List.mem_append.mp hq with hq | hq
    · exact Or.inl ⟨q, hq, h⟩
    · exact Or.inr ⟨q, hq, h⟩
  · rintro (⟨q, hq, h⟩ | ⟨q, hq, h⟩)
    · exact ⟨q, List.mem_append_left _ hq, h⟩
    · exact ⟨q, List.mem_append_right _ hq, h⟩
theorem nmL_1 {r : Nat} {q : aPart} {u : Nat} : nmL F R r [q] u ↔ nmd F R r q u := by
  unfold nmL
  simp
theorem nmd_no {r : Nat} {q : aPart} {u : Nat} (h : ¬ (q.1 = 1 ∨ q.1 = 2)) : ¬ nmd F R r q u := by
  rintro (h2 | h2)
  · exact h (Or.inl h2.1)
  · exact h (Or.inr h2.1)
theorem setOf_C {c : Nat} (hc : c < 64) (u : Nat) : bt (L_X6_setOf_r ht I A J it dyn (nI c)) u ↔ u = c := bt_sb hc u
theorem cellOf_C (k r : Nat) : L_X7_cellOf_r ht I A J it dyn (nI k) (nI r) = nI (4 * k + r) := by
  unfold L_X7_cellOf_r
  rw [iL 4, nI_mul, nI_add, Nat.mul_comm]
theorem tot_C (h : CF F R I it dyn) {x1 : Option Nat} {g r : Nat} (hok : fs_okP dyn x1) (h6 : fs_dI dyn x1 6 = nI g) (hg : g < F.length) (hr : rp F g = 1) : S_Lb_X6_cellsNamed_42 70 ht I A J it dyn x1 (nI r) 0 0 ∧ ∀ u : Nat, bt (Lb_X6_cellsNamed_42_v3 70 ht I A J it dyn x1 (nI r) 0 0) u ↔ ∃ i : Nat, i < R ∧ u = 4 * g + i := by
  have hl := h.1.1
  have hR := h.2.2.2.2
  obtain ⟨_, _, r3, r4, _, _⟩ := rep_C (ht := ht) (A := A) (J := J) h (k := g) (by omega)
  have er : rw1 F R g = R := by unfold rw1; rw [if_pos hg, if_neg (by omega)]
  rw [er] at r3
  refine lp (S := Int64) (F := fun n y v => Lb_X6_cellsNamed_42_v3 n ht I A J it dyn x1 (nI r) y v) (SF := fun n y v => S_Lb_X6_cellsNamed_42 n ht I A J it dyn x1 (nI r) y v) R (fun b y => ∀ u : Nat, bt y u ↔ ∃ i : Nat, i < b ∧ u = 4 * g + i) (fun y i => y ||| L_X6_setOf_r ht I A J it dyn (nI (4 * g + i))) ?_ ?_ R 70 0 0 (by omega) (by omega) (fun u => ⟨fun h => absurd h (bt_0 u), fun ⟨i, h, _⟩ => by omega⟩)
  · intro n y i hi hP
    left
    have zl : ¬ nI R ≤ nI i := by rw [nI_leI (by omega) (by omega)]; omega
    simp only [Lb_X6_cellsNamed_42_v3, S_Lb_X6_cellsNamed_42, h6, r3, if_neg zl, cellOf_C, nI_1]
    refine ⟨trivial, fun u => ?_, fun h => ⟨hok, r4, fun _ => ⟨hok, h⟩⟩⟩
    rw [bt_or, hP u, setOf_C (by omega)]
    constructor
    · rintro (⟨j, h1, h2⟩ | h1)
      · exact ⟨j, by omega, h2⟩
      · exact ⟨i, by omega, h1⟩
    · rintro ⟨j, h1, h2⟩
      by_cases e : j = i
      · subst e; exact Or.inr h2
      · exact Or.inl ⟨j, by omega, h2⟩
  · intro n y hP
    have zl : nI R ≤ nI R := by rw [nI_leI (by omega) (by omega)]; omega
    simp only [Lb_X6_cellsNamed_42_v3, S_Lb_X6_cellsNamed_42, h6, r3, if_pos zl]
    exact ⟨trivial, hok, r4, fun h => absurd zl h⟩
theorem CN_none {m : Nat} (hm : 0 < m) (x2 : Int32) : (T_X6_cellsNamed m ht I A J it dyn none x2).2 ∧ ∀ u : Nat, bt (T_X6_cellsNamed m ht I A J it dyn none x2).1 u ↔ False := by
  obtain ⟨m, rfl⟩ : ∃ n', m = n' + 1 := ⟨m - 1, by omega⟩
  rw [T_X6_cellsNamed]
  unfold L_X6_cellsNamed_st_r S_X6_cellsNamed_st
  simp [bt_0]
theorem cn_op {D a m : Nat} {q : aPart} {i x2 : Int32} {r1 r2 r3 : Option Nat} {o1 o2 o3 : Nat → Prop} (h : dyn[a]? = some (pcellI D q i)) (hq2 : fs_dI dyn (some (a + 41)) 0 ≠ 97) (hq3 : fs_dI dyn (some (a + 41)) 0 ≠ 35)
    (e1 : r1 = (if q.1 = 0 then none else if q.1 = 1 then none else if q.1 = 2 then none else some (D + q.2.1 + 41))) (e2 : r2 = (if q.1 = 0 then none else if q.1 = 1 then none else if q.1 = 2 then none else some (D + q.2.2.1 + 41))) (e3 : r3 = (if q.1 = 63 then some (D + q.2.2.2.1 + 41) else none))
    (t1 : (T_X6_cellsNamed m ht I A J it dyn r1 x2).2 ∧ ∀ u : Nat, bt (T_X6_cellsNamed m ht I A J it dyn r1 x2).1 u ↔ o1 u)
    (t2 : (T_X6_cellsNamed m ht I A J it dyn r2 x2).2 ∧ ∀ u : Nat, bt (T_X6_cellsNamed m ht I A J it dyn r2 x2).1 u ↔ o2 u)
    (t3 : (T_X6_cellsNamed m ht I A J it dyn r3 x2).2 ∧ ∀ u : Nat, bt (T_X6_cellsNamed m ht I A J it dyn r3 x2).1 u ↔ o3 u) :
    (T_X6_cellsNamed (m + 1) ht I A J it dyn (some (a + 41)) x2).2 ∧ ∀ u : Nat, bt (T_X6_cellsNamed (m + 1) ht I A J it dyn (some (a + 41)) x2).1 u ↔ (o1 u ∨ o2 u) ∨ o3 u := by
  obtain ⟨p1, p2, p3, p4, p5, p6, p7, p8⟩ := pc_ok h
  rw [← e1] at p6
  rw [← e2] at p7
  rw [← e3] at p8
  rw [T_X6_cellsNamed]
  unfold L_X6_cellsNamed_st_r S_X6_cellsNamed_st
  simp only [reduceCtorEq, if_false, if_neg hq2, if_neg hq3, p6, p7, p8, not_false_eq_true, true_implies]
  refine ⟨⟨p1, fun h => absurd h hq2, fun _ => ⟨p1, fun h => absurd h hq3, fun _ => ⟨p1, t1.1, p1, t2.1, p1, t3.1⟩⟩⟩, fun u => ?_⟩
  rw [bt_or, bt_or, t1.2 u, t2.2 u, t3.2 u]
theorem cn_C (hC : CF F R I it dyn) {rep D r : Nat} (hr4 : r < 4) : ∀ (n P : Nat) (l : List aPart) (m : Nat), PT n P l → n < m → pcR F D P l dyn → nOKL F rep l →
    (T_X6_cellsNamed m ht I A J it dyn (some (D + P + (l.length - 1) + 41)) (nI r)).2 ∧ ∀ u : Nat, bt (T_X6_cellsNamed m ht I A J it dyn (some (D + P + (l.length - 1) + 41)) (nI r)).1 u ↔ nmL F R r l u := by
  have hl := hC.1.1
  intro n
  induction n with
  | zero => intro P l m h; exact absurd h id
  | succ n ih =>
    intro P l m h hm hp hok
    obtain ⟨m, rfl⟩ : ∃ n', m = n' + 1 := ⟨m - 1, by omega⟩
    have hm0 : 0 < m := by omega
    rcases h with ⟨v, _, rfl⟩ | ⟨o, nm, ho, hn1, hn2, rfl⟩ | ⟨s, l1, l2, hs, h1, h2, rfl⟩ | ⟨l1, l2, l3, h1, h2, h3, rfl⟩
    · obtain ⟨i, hi, _⟩ := hp 0 _ rfl
      have hi : dyn[D + P]? = some (pcellI D (0, 0, 0, 0, v) i) := hi
      obtain ⟨p1, p2, _⟩ := pc_ok hi
      have t := CN_none (ht := ht) (I := I) (A := A) (J := J) (it := it) (dyn := dyn) hm0 (nI r)
      obtain ⟨k1, k2⟩ := cn_op (r1 := none) (r2 := none) (r3 := none) hi (by rw [p2]; exact (by decide : (48 : Int32) ≠ 97)) (by rw [p2]; exact (by decide : (48 : Int32) ≠ 35)) rfl rfl rfl t t t
      refine ⟨k1, fun u => (k2 u).trans ?_⟩
      rw [nmL_1]
      have := nmd_no (F := F) (R := R) (r := r) (q := (0, 0, 0, 0, v)) (u := u) (by simp)
      constructor
      · rintro ((h | h) | h) <;> exact absurd h id
      · intro h; exact absurd h this
    · obtain ⟨i, hi, he⟩ := hp 0 _ rfl
      have hi : dyn[D + P]? = some (pcellI D (o, nm, 0, 0, 0) i) := hi
      obtain ⟨p1, p2, p3, p4, _⟩ := pc_ok hi
      obtain ⟨g1, g2, g3, g4, g5⟩ := nOK_g hl (nOKL_1.mp hok) ho
      simp only at g1 g2 g3 g4 g5
      have e6 : fs_dI dyn (some (D + P + 41)) 6 = nI (fg F nm) := by rw [p4, he ho]; exact g1
      obtain ⟨q1, q2, _, _, q5, _⟩ := rep_C (ht := ht) (A := A) (J := J) hC (k := fg F nm) (by omega)
      show (T_X6_cellsNamed (m + 1) ht I A J it dyn (some (D + P + 41)) (nI r)).2 ∧ ∀ u : Nat, bt (T_X6_cellsNamed (m + 1) ht I A J it dyn (some (D + P + 41)) (nI r)).1 u ↔ nmL F R r [(o, nm, 0, 0, 0)] u
      rw [T_X6_cellsNamed]
      unfold L_X6_cellsNamed_st_r S_X6_cellsNamed_st
      rcases ho with rfl | rfl
      · have c0 : fs_dI dyn (some (D + P + 41)) 0 = 97 := by rw [p2]; simp
        have ec : L_X6_cellNamed_r ht I A J it dyn (nI (fg F nm)) (nI r) = nI (4 * fg F nm + (if rp F (fg F nm) = 0 then 0 else r)) := by
          unfold L_X6_cellNamed_r
          rw [q1]
          by_cases h0 : rp F (fg F nm) = 0
          · rw [if_pos h0, if_pos (by rw [h0]; rfl)]
            exact cellOf_C _ 0
          · rw [if_neg h0, if_neg (by rw [nI01 q5]; exact h0)]
            exact cellOf_C _ r
        simp only [reduceCtorEq, if_false, c0, if_true, e6, ec, not_false_eq_true, true_implies]
        refine ⟨⟨p1, ⟨p1, by unfold S_X6_cellNamed; exact q2⟩, fun h => absurd trivial h⟩, fun u => ?_⟩
        have h64 : 4 * fg F nm + (if rp F (fg F nm) = 0 then 0 else r) < 64 := by split <;> omega
        rw [setOf_C h64, nmL_1]
        unfold nmd
        simp
      · have c0 : fs_dI dyn (some (D + P + 41)) 0 = 35 := by rw [p2]; simp
        have c9 : ¬ (35 : Int32) = 97 := by decide
        obtain ⟨t1, t2⟩ := tot_C (ht := ht) (A := A) (J := J) (r := r) hC p1 e6 g2 (g4 rfl)
        simp only [reduceCtorEq, if_false, c0, if_neg c9, if_true, not_false_eq_true, true_implies]
        refine ⟨⟨p1, fun h => absurd h c9, fun _ => ⟨p1, t1, fun h => absurd trivial h⟩⟩, fun u => ?_⟩
        rw [t2 u, nmL_1]
        unfold nmd
        simp
    · have e1 := PT_ne h1
      have e2 := PT_ne h2
      obtain ⟨z0, z1, z2, z97, z35, _⟩ := opS_ne (Or.inl hs)
      have hs63 : s ≠ 63 := by unfold opS at hs; omega
      obtain ⟨i, hi, _⟩ := hp (l1.length + l2.length) (s, P + l1.length - 1, P + l1.length + l2.length - 1, 0, 0) (by rw [List.getElem?_append_right (by simp)]; simp)
      have hlen : (l1 ++ l2 ++ [(s, P + l1.length - 1, P + l1.length + l2.length - 1, 0, 0)]).length - 1 = l1.length + l2.length := by simp
      rw [hlen]
      obtain ⟨p1, p2, _⟩ := pc_ok hi
      have p2 : fs_dI dyn (some (D + P + (l1.length + l2.length) + 41)) 0 = nI s := by rw [p2]; simp [z0, z1, z2]
      have hp12 := pcR_l hp
      have hok12 := (nOKL_a.mp hok).1
      have a := ih P l1 m h1 (by omega) (pcR_l hp12) (nOKL_a.mp hok12).1
      have b := ih (P + l1.length) l2 m h2 (by omega) (pcR_r hp12) (nOKL_a.mp hok12).2
      have t := CN_none (ht := ht) (I := I) (A := A) (J := J) (it := it) (dyn := dyn) hm0 (nI r)
      obtain ⟨k1, k2⟩ := cn_op (r1 := some (D + P + (l1.length - 1) + 41)) (r2 := some (D + (P + l1.length) + (l2.length - 1) + 41)) (r3 := none) hi (by rw [p2]; exact z97) (by rw [p2]; exact z35) (by simp only [if_neg z0, if_neg z1, if_neg z2]; congr 1; omega) (by simp only [if_neg z0, if_neg z1, if_neg z2]; congr 1; omega) (by simp only [if_neg hs63]) a b t
      refine ⟨k1, fun u => (k2 u).trans ?_⟩
      rw [nmL_a, nmL_a, nmL_1]
      have := nmd_no (F := F) (R := R) (r := r) (q := (s, P + l1.length - 1, P + l1.length + l2.length - 1, 0, 0)) (u := u) (by simp only; omega)
      constructor
      · rintro ((h | h) | h)
        · exact Or.inl (Or.inl h)
        · exact Or.inl (Or.inr h)
        · exact absurd h id
      · rintro ((h | h) | h)
        · exact Or.inl (Or.inl h)
        · exact Or.inl (Or.inr h)
        · exact absurd h this
    · have e1 := PT_ne h1
      have e2 := PT_ne h2
      have e3 := PT_ne h3
      have z0 : ¬ (63 : Nat) = 0 := by decide
      have z1 : ¬ (63 : Nat) = 1 := by decide
      have z2 : ¬ (63 : Nat) = 2 := by decide
      obtain ⟨i, hi, _⟩ := hp (l1.length + l2.length + l3.length) (63, P + l1.length - 1, P + l1.length + l2.length - 1, P + l1.length + l2.length + l3.length - 1, 0) (by rw [show l1.length + l2.length + l3.length = (l1 ++ l2 ++ l3).length by simp [Nat.add_assoc]]; exact last_get _ _)
      have hlen : (l1 ++ l2 ++ l3 ++ [(63, P + l1.length - 1, P + l1.length + l2.length - 1, P + l1.length + l2.length + l3.length - 1, 0)]).length - 1 = l1.length + l2.length + l3.length := by simp; omega
      rw [hlen]
      obtain ⟨p1, p2, _⟩ := pc_ok hi
      have p2 : fs_dI dyn (some (D + P + (l1.length + l2.length + l3.length) + 41)) 0 = nI 63 := by rw [p2]; simp
      have hp123 := pcR_l hp
      have hp12 := pcR_l hp123
      have hok123 := (nOKL_a.mp hok).1
      have hok12 := (nOKL_a.mp hok123).1
      have hp3 := pcR_r hp123
      rw [List.length_append, ← Nat.add_assoc] at hp3
      have a := ih P l1 m h1 (by omega) (pcR_l hp12) (nOKL_a.mp hok12).1
      have b := ih (P + l1.length) l2 m h2 (by omega) (pcR_r hp12) (nOKL_a.mp hok12).2
      have c := ih (P + l1.length + l2.length) l3 m h3 (by omega) hp3 (nOKL_a.mp hok123).2
      obtain ⟨k1, k2⟩ := cn_op (r1 := some (D + P + (l1.length - 1) + 41)) (r2 := some (D + (P + l1.length) + (l2.length - 1) + 41)) (r3 := some (D + (P + l1.length + l2.length) + (l3.length - 1) + 41)) hi (by rw [p2]; decide) (by rw [p2]; decide) (by simp only [if_neg z0, if_neg z1, if_neg z2]; congr 1; omega) (by simp only [if_neg z0, if_neg z1, if_neg z2]; congr 1; omega) (by simp only [if_true]; congr 1; omega) a b c
      refine ⟨k1, fun u => (k2 u).trans ?_⟩
      rw [nmL_a, nmL_a, nmL_a, nmL_1]
      have := nmd_no (F := F) (R := R) (r := r) (q := (63, P + l1.length - 1, P + l1.length + l2.length - 1, P + l1.length + l2.length + l3.length - 1, 0)) (u := u) (by simp)
      constructor
      · exact Or.inl
      · rintro (h | h)
        · exact h
        · exact absurd h this
end CN
