/-! NAMES: the class finds what they mean -/
def nmc (kd nm i : Int32) : Option fsC := some (.inr (3, [fsI kd, fsJ 0, fsI nm, fsR none, fsR none, fsR none, fsI i]))
/-- the item numbers of some names are set, to what f says -/
def dynR (f : Int32 → Int32) (dyn dyn' : fsH) : Prop := dyn'.length = dyn.length ∧ ∀ j : Nat, dyn'[j]? = dyn[j]? ∨ ∃ kd nm i : Int32, (kd = 97 ∨ kd = 35) ∧ dyn[j]? = some (nmc kd nm i) ∧ dyn'[j]? = some (nmc kd nm (f nm))
def pcl (D P : Nat) (l : List aPart) (dyn : fsH) : Prop := ∀ (j : Nat) (q : aPart), l[j]? = some q → ∃ i : Int32, dyn[D + P + j]? = some (pcellI D q i)
def prs (f : Int32 → Int32) (D P : Nat) (l : List aPart) (dyn : fsH) : Prop := ∀ (j : Nat) (q : aPart), l[j]? = some q → (q.1 = 1 ∨ q.1 = 2) → dyn[D + P + j]? = some (pcellI D q (f (nI (cnm q.2.1))))
def nOK (F : List aItem) (rep : Nat) (q : aPart) : Prop := (q.1 = 1 ∨ q.1 = 2) → ∃ g : Nat, fnd F q.2.1 F.length 0 = nI g ∧ g < F.length ∧ kd F g = 0 ∧ (q.1 = 2 → rp F g = 1) ∧ (q.1 = 1 → rp F g = 1 → rep = 1)
def nOKL (F : List aItem) (rep : Nat) (l : List aPart) : Prop := ∀ q ∈ l, nOK F rep q
section RS
variable {ht : Nat} {F : List aItem} {R : Nat} {I : Nat → Int32} {A : Nat → Nat → Int32} {J : Nat → Nat → Int64} {it : Nat → Option Nat} {dyn dyn' dyn'' : fsH} {f : Int32 → Int32}
theorem dynR.rf : dynR f dyn dyn := ⟨rfl, fun _ => Or.inl rfl⟩
theorem nmc_inj {a b c a' b' c' : Int32} (h : nmc a b c = nmc a' b' c') : a = a' ∧ b = b' ∧ c = c' := by
  unfold nmc at h
  simpa using h
theorem dynR.tr (h : dynR f dyn dyn') (h' : dynR f dyn' dyn'') : dynR f dyn dyn'' := by
  refine ⟨h'.1.trans h.1, fun j => ?_⟩
  rcases h'.2 j with e | ⟨k2, n2, i2, c2, a2, b2⟩
  · rw [e]; exact h.2 j
  · rcases h.2 j with e | ⟨k1, n1, i1, c1, a1, b1⟩
    · rw [e] at a2; exact Or.inr ⟨k2, n2, i2, c2, a2, b2⟩
    · rw [b1] at a2
      obtain ⟨rfl, rfl, _⟩ := nmc_inj (Option.some.inj a2)
      exact Or.inr ⟨k1, n1, i1, c1, a1, b2⟩
theorem pcellI_nmc {D : Nat} {q : aPart} {i kd nm i' : Int32} (hk : kd = 97 ∨ kd = 35) (h : pcellI D q i = nmc kd nm i') : (q.1 = 1 ∨ q.1 = 2) ∧ nm = nI (cnm q.2.1) ∧ ∀ x : Int32, nmc kd nm x = pcellI D q x := by
  unfold pcellI nmc at h ⊢
  by_cases h0 : q.1 = 0
  · rw [if_pos h0] at h
    simp at h
    rcases hk with rfl | rfl
    · exact absurd h.1 (by decide)
    · exact absurd h.1 (by decide)
  · rw [if_neg h0] at h
    by_cases h1 : q.1 = 1
    · rw [if_pos h1] at h
      simp at h
      obtain ⟨e1, e2, _⟩ := h
      refine ⟨Or.inl h1, e2.symm, fun x => ?_⟩
      rw [if_neg h0, if_pos h1, ← e1, ← e2]
    · rw [if_neg h1] at h
      by_cases h2 : q.1 = 2
      · rw [if_pos h2] at h
        simp at h
        obtain ⟨e1, e2, _⟩ := h
        refine ⟨Or.inr h2, e2.symm, fun x => ?_⟩
        rw [if_neg h0, if_neg h1, if_pos h2, ← e1, ← e2]
      · rw [if_neg h2] at h
        simp at h
theorem dynR.cell (h : dynR f dyn dyn') {a D : Nat} {q : aPart} {i : Int32} (hc : dyn[a]? = some (pcellI D q i)) : ∃ i' : Int32, dyn'[a]? = some (pcellI D q i') ∧ (i' = i ∨ ((q.1 = 1 ∨ q.1 = 2) ∧ i' = f (nI (cnm q.2.1)))) := by
  rcases h.2 a with e | ⟨k, n, i0, c, a1, b1⟩
  · rw [e]; exact ⟨i, hc, Or.inl rfl⟩
  · rw [hc] at a1
    obtain ⟨z1, z2, z3⟩ := pcellI_nmc c (Option.some.inj a1)
    rw [z3 (f n)] at b1
    exact ⟨f n, b1, Or.inr ⟨z1, by rw [z2]⟩⟩
theorem dynR.item (h : dynR f dyn dyn') {a D : Nat} {x : aItem} (hc : dyn[a]? = some (icell D x)) : dyn'[a]? = some (icell D x) := by
  rcases h.2 a with e | ⟨k, n, i0, c, a1, b1⟩
  · rw [e]; exact hc
  · rw [hc] at a1
    unfold icell nmc at a1
    simp at a1
theorem dynR.pcl (h : dynR f dyn dyn') {D P : Nat} {l : List aPart} (hc : pcl D P l dyn) : pcl D P l dyn' := fun j q hj => by
  obtain ⟨i, hi⟩ := hc j q hj
  obtain ⟨i', e, _⟩ := h.cell hi
  exact ⟨i', e⟩
theorem dynR.prs (h : dynR f dyn dyn') {D P : Nat} {l : List aPart} (hc : prs f D P l dyn) : prs f D P l dyn' := fun j q hj hn => by
  obtain ⟨i', e, e2⟩ := h.cell (hc j q hj hn)
  rcases e2 with rfl | ⟨_, rfl⟩
  · exact e
  · exact e
theorem CF.dynR (h : CF F R I it dyn) (hd : dynR f dyn dyn') : CF F R I it dyn' :=
  ⟨h.1, fun k x hx => by
    obtain ⟨r, D, e1, e2, e3⟩ := h.2.1 k x hx
    exact ⟨r, D, e1, hd.item e2, fun j q hj => by
      obtain ⟨i, hi⟩ := e3 j q hj
      obtain ⟨i', e, _⟩ := hd.cell hi
      exact ⟨i', e⟩⟩, h.2.2⟩
theorem pcl_l {D P : Nat} {l1 l2 : List aPart} (h : pcl D P (l1 ++ l2) dyn) : pcl D P l1 dyn := fun j q hj => h j q (by rw [List.getElem?_append_left (List.getElem?_eq_some_iff.mp hj).1]; exact hj)
theorem pcl_r {D P : Nat} {l1 l2 : List aPart} (h : pcl D P (l1 ++ l2) dyn) : pcl D (P + l1.length) l2 dyn := fun j q hj => by
  have := h (l1.length + j) q (by rw [List.getElem?_append_right (by omega)]; simpa using hj)
  rw [show D + (P + l1.length) + j = D + P + (l1.length + j) by omega]
  exact this
theorem prs_a {D P : Nat} {l1 l2 : List aPart} (h1 : prs f D P l1 dyn) (h2 : prs f D (P + l1.length) l2 dyn) : prs f D P (l1 ++ l2) dyn := fun j q hj hn => by
  by_cases e : j < l1.length
  · rw [List.getElem?_append_left e] at hj
    exact h1 j q hj hn
  · rw [List.getElem?_append_right (by omega)] at hj
    have := h2 (j - l1.length) q hj hn
    rw [show D + (P + l1.length) + (j - l1.length) = D + P + j by omega] at this
    exact this
theorem prs_1 {D P : Nat} {q : aPart} (h : ¬ (q.1 = 1 ∨ q.1 = 2)) : prs f D P [q] dyn := fun j q' hj hn => by
  cases j with
  | zero => simp at hj; subst hj; exact absurd hn h
  | succ j => simp at hj
theorem pc_ok {D a : Nat} {q : aPart} {i : Int32} (h : dyn[a]? = some (pcellI D q i)) : fs_okP dyn (some (a + 41)) ∧ fs_dI dyn (some (a + 41)) 0 = (if q.1 = 0 then 48 else if q.1 = 1 then 97 else if q.1 = 2 then 35 else nI q.1) ∧ fs_dI dyn (some (a + 41)) 2 = (if q.1 = 0 then 0 else if q.1 = 1 then nI (cnm q.2.1) else if q.1 = 2 then nI (cnm q.2.1) else 0) ∧ fs_dI dyn (some (a + 41)) 6 = i ∧ fs_dJ dyn (some (a + 41)) 1 = (if q.1 = 0 then lN q.2.2.2.2 else 0) ∧ fs_dR dyn (some (a + 41)) 3 = (if q.1 = 0 then none else if q.1 = 1 then none else if q.1 = 2 then none else some (D + q.2.1 + 41)) ∧ fs_dR dyn (some (a + 41)) 4 = (if q.1 = 0 then none else if q.1 = 1 then none else if q.1 = 2 then none else some (D + q.2.2.1 + 41)) ∧ fs_dR dyn (some (a + 41)) 5 = (if q.1 = 63 then some (D + q.2.2.2.1 + 41) else none) := by
  unfold pcellI at h
  by_cases h0 : q.1 = 0
  · rw [if_pos h0] at h
    exact ⟨⟨a, _, _, _, _, _, _, _, rfl, h⟩, by simp [fs_dI, fs_cell, h, h0], by simp [fs_dI, fs_cell, h, h0], by simp [fs_dI, fs_cell, h, h0], by simp [fs_dJ, fs_cell, h, h0], by simp [fs_dR, fs_cell, h, h0], by simp [fs_dR, fs_cell, h, h0], by simp [fs_dR, fs_cell, h, h0]⟩
  · rw [if_neg h0] at h
    by_cases h1 : q.1 = 1
    · rw [if_pos h1] at h
      exact ⟨⟨a, _, _, _, _, _, _, _, rfl, h⟩, by simp [fs_dI, fs_cell, h, h1], by simp [fs_dI, fs_cell, h, h1], by simp [fs_dI, fs_cell, h], by simp [fs_dJ, fs_cell, h, h1], by simp [fs_dR, fs_cell, h, h1], by simp [fs_dR, fs_cell, h, h1], by simp [fs_dR, fs_cell, h, h1]⟩
    · rw [if_neg h1] at h
      by_cases h2 : q.1 = 2
      · rw [if_pos h2] at h
        exact ⟨⟨a, _, _, _, _, _, _, _, rfl, h⟩, by simp [fs_dI, fs_cell, h, h2], by simp [fs_dI, fs_cell, h, h2], by simp [fs_dI, fs_cell, h], by simp [fs_dJ, fs_cell, h, h2], by simp [fs_dR, fs_cell, h, h2], by simp [fs_dR, fs_cell, h, h2], by simp [fs_dR, fs_cell, h, h2]⟩
      · rw [if_neg h2] at h
        exact ⟨⟨a, _, _, _, _, _, _, _, rfl, h⟩, by simp [fs_dI, fs_cell, h, h0, h1, h2], by simp [fs_dI, fs_cell, h, h0, h1, h2], by simp [fs_dI, fs_cell, h], by simp [fs_dJ, fs_cell, h, h0], by simp [fs_dR, fs_cell, h, h0, h1, h2], by simp [fs_dR, fs_cell, h, h0, h1, h2], by simp [fs_dR, fs_cell, h]⟩
theorem dset_c {D a : Nat} {q : aPart} {i : Int32} (h : dyn[a]? = some (pcellI D q i)) (hn : q.1 = 1 ∨ q.1 = 2) {v : Int32} (hv : v = f (nI (cnm q.2.1))) : (fs_dset dyn (some (a + 41)) 6 (fsI v))[a]? = some (pcellI D q v) ∧ dynR f dyn (fs_dset dyn (some (a + 41)) 6 (fsI v)) := by
  have hl : a < dyn.length := (List.getElem?_eq_some_iff.mp h).1
  have key : ∃ kd : Int32, (kd = 97 ∨ kd = 35) ∧ ∀ x : Int32, pcellI D q x = nmc kd (nI (cnm q.2.1)) x := by
    rcases hn with e | e
    · exact ⟨97, Or.inl rfl, fun x => by unfold pcellI nmc; simp [e]⟩
    · exact ⟨35, Or.inr rfl, fun x => by unfold pcellI nmc; simp [e]⟩
  obtain ⟨kd, hk, e⟩ := key
  have es : fs_dset dyn (some (a + 41)) 6 (fsI v) = dyn.set a (pcellI D q v) := by
    rw [e] at h
    unfold nmc at h
    rw [e]
    simp [fs_dset, fs_cell, h, nmc]
  rw [es]
  refine ⟨by simp [hl], by simp, fun j => ?_⟩
  by_cases ej : j = a
  · subst ej
    right
    refine ⟨kd, nI (cnm q.2.1), i, hk, by rw [h, e], ?_⟩
    rw [List.getElem?_set_self hl, e, hv]
  · left
    rw [List.getElem?_set_ne (by omega)]
theorem T_none (m : Nat) (x2 : Int32) : (T_X1_resolve (m + 1) ht I A J it dyn none x2).1 = 1 ∧ (T_X1_resolve (m + 1) ht I A J it dyn none x2).2.1 = dyn ∧ (T_X1_resolve (m + 1) ht I A J it dyn none x2).2.2 := by
  rw [T_X1_resolve]
  unfold L_X1_resolve_st_r L_X1_resolve_st_dyn S_X1_resolve_st
  simp
theorem res_nm (hC : CF F R I it dyn) (hf : ∀ n : Nat, 27 ≤ n ∧ n ≤ 728 → f (nI (cnm n)) = fnd F n F.length 0) {rep D a o nm m : Nat} {i : Int32} (hrep : rep ≤ 1) (ho : o = 1 ∨ o = 2) (hnm : 27 ≤ nm ∧ nm ≤ 728) (h : dyn[a]? = some (pcellI D (o, nm, 0, 0, 0) i)) :
    (T_X1_resolve (m + 1) ht I A J it dyn (some (a + 41)) (nI rep)).2.2 ∧ dynR f dyn (T_X1_resolve (m + 1) ht I A J it dyn (some (a + 41)) (nI rep)).2.1 ∧ (nOK F rep (o, nm, 0, 0, 0) → (T_X1_resolve (m + 1) ht I A J it dyn (some (a + 41)) (nI rep)).1 = 1 ∧ (T_X1_resolve (m + 1) ht I A J it dyn (some (a + 41)) (nI rep)).2.1[a]? = some (pcellI D (o, nm, 0, 0, 0) (f (nI (cnm nm))))) ∧ (¬ nOK F rep (o, nm, 0, 0, 0) → (T_X1_resolve (m + 1) ht I A J it dyn (some (a + 41)) (nI rep)).1 = 0) := by
  have hl := hC.1.1
  obtain ⟨p1, p2, p3, p4, p5, p6, p7, p8⟩ := pc_ok h
  obtain ⟨n1, n2⟩ := fieldNamed_C (ht := ht) (A := A) (J := J) hC hnm
  obtain ⟨d1, d2⟩ := dset_c (f := f) (v := fnd F nm F.length 0) h ho (hf nm hnm).symm
  have hC1 := hC.dynR d2
  obtain ⟨q1, q2, q3, q4, q5, q6, q7, q8⟩ := pc_ok d1
  have c2 : fs_dI dyn (some (a + 41)) 2 = nI (cnm nm) := by rw [p3]; rcases ho with rfl | rfl <;> simp
  have z2 : (nI rep = 0) ↔ rep = 0 := by rw [iL 0, nI_eq (by omega) (by omega)]
  rw [T_X1_resolve]
  unfold L_X1_resolve_st_r L_X1_resolve_st_dyn S_X1_resolve_st
  simp only [c2, n1, reduceCtorEq, if_false, q4, not_false_eq_true, true_implies, z2]
  generalize hdd : fs_dset dyn (some (a + 41)) 6 (fsI (fnd F nm F.length 0)) = dd at *
  rw [hf nm hnm]
  rcases fnd_b (F := F) (nm := nm) F.length 0 with ⟨e, hno⟩ | ⟨g, _, hg, hk0, hnm2, e⟩
  · have hnok : ¬ nOK F rep (o, nm, 0, 0, 0) := by
      intro h2
      obtain ⟨g, e2, hg, _⟩ := h2 ho
      rw [e] at e2
      exact nI_ne1 (by omega) e2.symm
    rcases ho with rfl | rfl
    · have c0 : fs_dI dyn (some (a + 41)) 0 = 97 := by rw [p2]; simp
      simp only [c0, if_true, e]
      exact ⟨⟨p1, fun _ => ⟨p1, n2, p1, q1, fun h => absurd trivial h⟩, fun h => absurd trivial h⟩, d2, fun h => absurd h hnok, fun _ => trivial⟩
    · have c0 : fs_dI dyn (some (a + 41)) 0 = 35 := by rw [p2]; simp
      have c9 : ¬ (35 : Int32) = 97 := by decide
      simp only [c0, if_neg c9, if_true, e]
      exact ⟨⟨p1, fun h => absurd h c9, fun _ => ⟨p1, fun _ => ⟨p1, n2, p1, q1, fun h => absurd trivial h⟩, fun h => absurd trivial h⟩⟩, d2, fun h => absurd h hnok, fun _ => trivial⟩
  · have hne : ¬ nI g = -1 := nI_ne1 (by omega)
    obtain ⟨r1, r2, _, _, r5, _⟩ := rep_C (ht := ht) (A := A) (J := J) hC1 (k := g) (by omega)
    have zr : (nI (rp F g) = 0) ↔ rp F g = 0 := by rw [iL 0, nI_eq (by omega) (by omega)]
    rw [e] at d1 ⊢
    rcases ho with rfl | rfl
    · have c0 : fs_dI dyn (some (a + 41)) 0 = 97 := by rw [p2]; simp
      have c1 : fs_dI dd (some (a + 41)) 0 = 97 := by rw [q2]; simp
      have c9 : ¬ (97 : Int32) = 35 := by decide
      simp only [c0, c1, if_true, if_neg hne, if_neg c9, r1, zr]
      refine ⟨⟨p1, fun _ => ⟨p1, n2, p1, q1, fun _ => ⟨q1, fun h => absurd h c9, fun _ _ => ⟨q1, r2⟩⟩⟩, fun h => absurd trivial h⟩, d2, fun hok => ⟨?_, d1⟩, fun hok => ?_⟩
      · obtain ⟨g', e2, hg', _, _, h5⟩ := hok (Or.inl rfl)
        rw [e] at e2
        obtain rfl : g = g' := (nI_eq (by omega) (by omega)).mp e2
        by_cases h0 : rep = 0
        · rw [if_pos h0, if_pos]
          have := h5 rfl
          omega
        · rw [if_neg h0]
      · have h0 : rep = 0 ∧ ¬ rp F g = 0 := Classical.byContradiction fun h2 => hok fun _ => ⟨g, e, by omega, hk0, fun h => by simp at h, fun _ h => by omega⟩
        rw [if_pos h0.1, if_neg h0.2]
    · have c0 : fs_dI dyn (some (a + 41)) 0 = 35 := by rw [p2]; simp
      have c1 : fs_dI dd (some (a + 41)) 0 = 35 := by rw [q2]; simp
      have c9 : ¬ (35 : Int32) = 97 := by decide
      simp only [c0, c1, if_true, if_neg hne, if_neg c9, r1]
      refine ⟨⟨p1, fun h => absurd h c9, fun _ => ⟨p1, fun _ => ⟨p1, n2, p1, q1, fun _ => ⟨q1, fun _ => ⟨q1, r2⟩, fun h => absurd trivial h⟩⟩, fun h => absurd trivial h⟩⟩, d2, fun hok => ⟨?_, d1⟩, fun hok => ?_⟩
      · obtain ⟨g', e2, hg', _, h5, _⟩ := hok (Or.inr rfl)
        rw [e] at e2
        obtain rfl : g = g' := (nI_eq (by omega) (by omega)).mp e2
        rw [h5 rfl]; rfl
      · have h0 : rp F g = 0 := Classical.byContradiction fun h2 => hok fun _ => ⟨g, e, by omega, hk0, fun _ => by omega, fun h => by simp at h⟩
        rw [h0]; rfl
end RS
