/-! ADD, both sides -/
def canT (F : List aItem) (x : aItem) : Prop := F.length < 16 ∧ (x.1 = 0 → fnd F x.2.1 F.length 0 = -1)
theorem nI_ne1 {j : Nat} (h : j < 2 ^ 31) : ¬ nI j = -1 := by
  intro e
  have e1 := congrArg Int32.toInt e
  rw [nI_toInt h, show (-1 : Int32).toInt = -1 by decide] at e1
  omega
section AD
variable {ht : Nat} {F : List aItem} {R : Nat} {I : Nat → Int32} {A : Nat → Nat → Int32} {J : Nat → Nat → Int64} {it : Nat → Option Nat} {dyn : fsH} {t : List Nat}
theorem frC.ap (h : frC F it dyn) (e : fsH) : frC F it (dyn ++ e) := by
  intro k x hx
  obtain ⟨r, D, h1, h2, h3⟩ := h k x hx
  have g : ∀ (i : Nat) (y : Option fsC), dyn[i]? = some y → (dyn ++ e)[i]? = some y := by
    intro i y hi
    rw [List.getElem?_append_left (List.getElem?_eq_some_iff.mp hi).1]
    exact hi
  exact ⟨r, D, h1, g _ _ h2, fun j q hj => by obtain ⟨i, hi⟩ := h3 j q hj; exact ⟨i, g _ _ hi⟩⟩
theorem CF.cg (h : CF F R I it dyn) {I' : Nat → Int32} (h4 : I' 4 = I 4) (h5 : I' 5 = I 5) (e : fsH) : CF F R I' it (dyn ++ e) :=
  ⟨h.1, h.2.1.ap e, by rw [h4]; exact h.2.2.1, by rw [h5]; exact h.2.2.2.1, h.2.2.2.2⟩
theorem can_C (h : CF F R I it dyn) {D r : Nat} {x : aItem} (hx : dyn[r]? = some (icell D x)) (w : wfI x) : (canT F x → L_X1_canTake_r ht I A J it dyn (some (r + 41)) = 1) ∧ (¬ canT F x → L_X1_canTake_r ht I A J it dyn (some (r + 41)) = 0) ∧ S_X1_canTake ht I A J it dyn (some (r + 41)) := by
  have hl := h.1.1
  obtain ⟨a1, a2, a3, a4, a5, a6⟩ := icell_ok hx
  unfold L_X1_canTake_r S_X1_canTake canT
  rw [h.2.2.1, a2, a3, iL 16]
  simp (disch := omega) only [nI_leI]
  by_cases h16 : 16 ≤ F.length
  · simp only [if_pos h16]
    exact ⟨fun h => by omega, fun _ => trivial, fun h => absurd h16 h⟩
  · simp only [if_neg h16]
    by_cases h0 : x.1 = 0
    · obtain ⟨f1, f2⟩ := fieldNamed_C (ht := ht) (A := A) (J := J) h (w.2.1 h0)
      simp only [if_pos h0, if_true, f1]
      refine ⟨fun h => by rw [if_pos (h.2 h0)], fun h => ?_, fun _ => ⟨a1, fun _ => ⟨a1, f2⟩⟩⟩
      rw [if_neg fun h2 => h ⟨by omega, fun _ => h2⟩]
    · have z : ¬ (if x.1 = 0 then (102 : Int32) else if x.1 = 1 then 33 else 34) = 102 := by
        rw [if_neg h0]; split <;> decide
      simp only [if_neg z]
      exact ⟨fun _ => trivial, fun h => absurd ⟨by omega, fun h2 => absurd h2 h0⟩ h, fun _ => ⟨a1, fun h => absurd h z⟩⟩
theorem add_C (hT : txR 2 2 I A t) (h : CF F R I it dyn) {c : Nat} (hc : c ≤ 1) (h1 : I 1 = nI c) : S_X7_add ht I A J it dyn ∧
    (¬ rdOK t → L_X7_add_k ht I A J it dyn = 1 ∧ L_X7_add_I ht I A J it dyn = upd (upd (upd I 3 (nI (rd t).2.1)) 2 0) 0 (nI (rd t).2.1) ∧ L_X7_add_it ht I A J it dyn = it) ∧
    (∀ x, (rd t).1 = some x → (rd t).2.1 = t.length → ¬ (c = 0 ∧ canT F x) → L_X7_add_k ht I A J it dyn = 2 ∧ L_X7_add_I ht I A J it dyn = upd (upd (upd I 3 (nI (rd t).2.1)) 2 0) 0 (-1) ∧ L_X7_add_it ht I A J it dyn = it) ∧
    (∀ x, (rd t).1 = some x → (rd t).2.1 = t.length → c = 0 → canT F x → L_X7_add_k ht I A J it dyn = 0 ∧ L_X7_add_r ht I A J it dyn = nI F.length ∧ L_X7_add_I ht I A J it dyn = upd (upd (upd (upd I 3 (nI (rd t).2.1)) 2 0) 0 (-1)) 4 (nI (F.length + 1)) ∧ L_X7_add_it ht I A J it dyn = va_up it F.length (some (dyn.length + (rd t).2.2.length + 41))) ∧
    L_X7_add_dyn ht I A J it dyn = dyn ++ (rd t).2.2.map (pcell dyn.length) ++ icL dyn.length (rd t).1 := by
  have hl := h.1.1
  obtain ⟨k1, k2, k3, k4, k5⟩ := take_C (ht := ht) (J := J) (it := it) hT dyn
  unfold L_X7_add_k L_X7_add_r L_X7_add_I L_X7_add_it L_X7_add_dyn S_X7_add L_X5_reached_r
  have e3 : (upd (upd I 3 (nI (rd t).2.1)) 2 0) 3 = nI (rd t).2.1 := by rw [upd_n _ _ (by decide), upd_s]
  have e1 : (upd (upd I 3 (nI (rd t).2.1)) 2 0) 1 = nI c := by rw [upd_n _ _ (by decide), upd_n _ _ (by decide)]; exact h1
  simp only [k1, k2, k3, e3, e1]
  by_cases hr : rdOK t
  · obtain ⟨⟨x, hx⟩, he⟩ := hr
    obtain ⟨w, hp⟩ := rd_wf hT.2.1 hx
    simp only [hx, if_pos he, Option.map_some, reduceCtorEq, if_false, icL]
    have C1 : CF F R (upd (upd (upd I 3 (nI (rd t).2.1)) 2 0) 0 (-1)) it (dyn ++ (rd t).2.2.map (pcell dyn.length) ++ [icell dyn.length x]) := by
      rw [List.append_assoc]
      exact h.cg (by simp [upd]) (by simp [upd]) _
    have hcell : (dyn ++ (rd t).2.2.map (pcell dyn.length) ++ [icell dyn.length x])[dyn.length + (rd t).2.2.length]? = some (icell dyn.length x) := by
      rw [List.getElem?_append_right (by simp)]
      simp
    obtain ⟨c1, c2, c3⟩ := can_C (ht := ht) (A := A) (J := J) C1 hcell w
    have z0 : (nI c = 0) ↔ c = 0 := by rw [iL 0, nI_eq (by omega) (by omega)]
    simp only [z0]
    refine ⟨⟨k4, fun _ h0 => ⟨c3, fun hh => ?_⟩⟩, fun h => absurd ⟨⟨x, hx⟩, he⟩ h, ?_, ?_, trivial⟩
    · unfold S_X1_take
      have hcan : canT F x := Classical.byContradiction fun h2 => hh (c2 h2)
      rw [show (upd (upd (upd I 3 (nI (rd t).2.1)) 2 0) 0 (-1)) 4 = nI F.length from C1.2.2.1]
      have hin : vp_in (nI F.length) 16 := nI_in (by have := hcan.1; omega) (by omega)
      exact fun _ => ⟨(icell_ok hcell).1, hin⟩
    · intro y hy _ hn
      cases hy
      by_cases h0 : c = 0
      · have hc2 := c2 (fun h2 => hn ⟨h0, h2⟩)
        simp only [if_pos h0, hc2, if_true]
        exact ⟨trivial, trivial, trivial⟩
      · simp only [if_neg h0]
        exact ⟨trivial, trivial, trivial⟩
    · intro y hy _ h0 hcan
      cases hy
      have hc1 := c1 hcan
      have h16 : nI F.length < 16 := by have := hcan.1; rw [iL 16, nI_ltI (by omega) (by omega)]; omega
      simp only [if_pos h0, hc1, show ¬ (1 : Int32) = 0 by decide, if_false]
      unfold L_X1_take_r L_X1_take_I L_X1_take_it
      rw [show (upd (upd (upd I 3 (nI (rd t).2.1)) 2 0) 0 (-1)) 4 = nI F.length from C1.2.2.1]
      simp only [if_pos h16, nI_1, nI_pred, nI_clamp (show F.length < 2 ^ 31 by omega)]
      exact ⟨trivial, trivial, trivial, trivial⟩
  · have hnone : (if (rd t).2.1 = t.length then (rd t).1.map (fun _ => dyn.length + (rd t).2.2.length + 41) else none) = none := by
      by_cases he : (rd t).2.1 = t.length
      · rw [if_pos he]
        cases hx : (rd t).1 with
        | none => rfl
        | some x => exact absurd ⟨⟨x, hx⟩, he⟩ hr
      · rw [if_neg he]
    simp only [hnone, if_true]
    refine ⟨⟨k4, fun h => absurd trivial h⟩, fun _ => ⟨trivial, trivial, trivial⟩, ?_, ?_, trivial⟩
    · intro x hx he; exact absurd ⟨⟨x, hx⟩, he⟩ hr
    · intro x hx he; exact absurd ⟨⟨x, hx⟩, he⟩ hr
/-- what adding leaves alone in the reference -/
theorem addloop_M {k : Nat} (hk : I 13 = nI k) (hk16 : k < 16) (v : Int32) : ∀ (m n i : Nat) (J : Nat → Nat → Int64), i + m = 4 → m < n → (∀ q : Nat, q < 64 → J 30 q = 0) → S_Lb_X8_add_102 n ht I A J it dyn v (nI i) ∧ (∀ q : Nat, q < 64 → (Lb_X8_add_102_J n ht I A J it dyn v (nI i)) 30 q = 0) ∧ ∀ a : Nat, a ≠ 30 → (Lb_X8_add_102_J n ht I A J it dyn v (nI i)) a = J a := by
  intro m
  induction m with
  | zero =>
    intro n i J hm hn h0
    obtain ⟨n, rfl⟩ : ∃ n', n = n' + 1 := ⟨n - 1, by omega⟩
    have z : (4 : Int32) ≤ nI i := by rw [iL 4, nI_leI (by omega) (by omega)]; omega
    simp only [S_Lb_X8_add_102, Lb_X8_add_102_J, if_pos z]
    exact ⟨fun h => absurd z h, h0, fun _ _ => trivial⟩
  | succ m ih =>
    intro n i J hm hn h0
    obtain ⟨n, rfl⟩ : ∃ n', n = n' + 1 := ⟨n - 1, by omega⟩
    have z : ¬ (4 : Int32) ≤ nI i := by rw [iL 4, nI_leI (by omega) (by omega)]; omega
    have ec : (4 : Int32) * nI k + nI i = nI (4 * k + i) := by rw [iL 4, nI_mul, nI_add]
    have hin : vp_in (nI (4 * k + i)) 64 := nI_in (by omega) (by omega)
    simp only [S_Lb_X8_add_102, Lb_X8_add_102_J, if_neg z, hk, ec, nI_1]
    obtain ⟨i1, i2, i3⟩ := ih n (i + 1) (va_up J 30 (vp_updL (J 30) (nI (4 * k + i)).toNatClampNeg 0)) (by omega) (by omega) (fun q hq => by simp [va_up, vp_updL, h0 q hq])
    refine ⟨fun _ => ⟨hin, i1⟩, i2, fun a ha => ?_⟩
    rw [i3 a ha]
    simp [va_up, ha]
theorem add_M (hT : txR 9 15 I A t) (h : MF F R I A J) {c : Nat} (hc : c ≤ 1) (h1 : I 12 = nI c) (h0 : c = 0 → ∀ q : Nat, q < 64 → J 30 q = 0) : S_X8_add ht I A J it dyn ∧
    (¬ rdOK t → (L_X8_add_I ht I A J it dyn) 8 = 1 ∧ (L_X8_add_I ht I A J it dyn) 10 = nI (rd t).2.1 ∧ (L_X8_add_I ht I A J it dyn) 13 = nI F.length) ∧
    (∀ x, (rd t).1 = some x → (rd t).2.1 = t.length → ¬ (c = 0 ∧ canT F x) → (L_X8_add_I ht I A J it dyn) 8 = 2 ∧ (L_X8_add_I ht I A J it dyn) 10 = -1 ∧ (L_X8_add_I ht I A J it dyn) 13 = nI F.length) ∧
    (∀ x, (rd t).1 = some x → (rd t).2.1 = t.length → c = 0 → canT F x → (L_X8_add_I ht I A J it dyn) 8 = 0 ∧ (L_X8_add_I ht I A J it dyn) 10 = -1 ∧ (L_X8_add_I ht I A J it dyn) 13 = nI (F.length + 1) ∧ L_X8_add_r ht I A J it dyn = nI F.length ∧ itM F.length (L_X8_add_A ht I A J it dyn) (L_X8_add_J ht I A J it dyn) x) ∧
    (L_X8_add_I ht I A J it dyn) 9 = 0 ∧ (∀ q : Nat, q ≠ 8 → q ≠ 9 → q ≠ 10 → q ≠ 13 → q ≠ 14 → q ≠ 15 → (L_X8_add_I ht I A J it dyn) q = I q) ∧
    (∀ n : Nat, n < 16 ∨ n = 25 ∨ 29 < n → (L_X8_add_A ht I A J it dyn) n = A n) ∧ frM F (L_X8_add_A ht I A J it dyn) (L_X8_add_J ht I A J it dyn) ∧
    (∀ n : Nat, n ≠ 25 → n ≠ 30 → (L_X8_add_J ht I A J it dyn) n = J n) ∧ (c = 0 → ∀ q : Nat, q < 64 → (L_X8_add_J ht I A J it dyn) 30 q = 0) ∧ (c = 1 → (L_X8_add_J ht I A J it dyn) 30 = J 30) := by
  have hl := h.1.1
  have T1 : txR 9 15 (upd I 10 (-1)) A t := hT.get (upd_n _ _ (by decide)) rfl
  obtain ⟨k1, k2, k3, k4, k5⟩ := read_M (ht := ht) (J := J) (it := it) (dyn := dyn) (k := F.length) T1 (by rw [upd_n _ _ (by decide)]; exact h.2.2.1) hl
  have frame : ∀ {J' : Nat → Nat → Int64}, (∀ n : Nat, n ≠ 30 → J' n = (L_X8_read_J ht (upd I 10 (-1)) A J it dyn) n) → frM F (L_X8_read_A ht (upd I 10 (-1)) A J it dyn) J' := by
    intro J' hJ k x hx
    have hk := F_lt hx
    obtain ⟨b1, b2, b3, b4, b5, b6⟩ := h.2.1 k x hx
    have g := fun (n : Nat) (a : 16 ≤ n) (b : n ≤ 20) => k2.2.2.1 n a b k (by omega)
    refine ⟨by rw [g 16 (by decide) (by decide)]; exact b1, fun hh => by rw [g 17 (by decide) (by decide)]; exact b2 hh, by rw [g 18 (by decide) (by decide)]; exact b3, fun hh => by rw [g 19 (by decide) (by decide)]; exact b4 hh, by rw [g 20 (by decide) (by decide)]; exact b5, ?_⟩
    intro j q hj
    have hj31 : j < x.2.2.2.2.length := (List.getElem?_eq_some_iff.mp hj).1
    have hw := (h.1.2 k x hx).2.2.2.2.2.2
    have hi : 32 * k + j < 32 * F.length := by omega
    obtain ⟨c1, c2, c3, c4, c5⟩ := b6 j q hj
    have g2 := fun (n : Nat) (a : 21 ≤ n) (b : n ≤ 24) => k2.2.2.2.1 n a b _ hi
    refine ⟨by rw [g2 21 (by decide) (by decide)]; exact c1, by rw [g2 22 (by decide) (by decide)]; exact c2, by rw [g2 23 (by decide) (by decide)]; exact c3, by rw [g2 24 (by decide) (by decide)]; exact c4, ?_⟩
    rw [hJ 25 (by decide), k2.2.2.2.2.2 _ hi]
    exact c5
  have frame0 := frame (J' := L_X8_read_J ht (upd I 10 (-1)) A J it dyn) (fun _ _ => rfl)
  have j30 : (L_X8_read_J ht (upd I 10 (-1)) A J it dyn) 30 = J 30 := k2.2.2.2.2.1 30 (by decide)
  have rI : ∀ q : Nat, q ≠ 14 → q ≠ 15 → q ≠ 10 → (L_X8_read_I ht (upd I 10 (-1)) A J it dyn) q = I q := fun q a b e => by rw [k2.1 q a b, upd_n _ _ e]
  have i12 : (L_X8_read_I ht (upd I 10 (-1)) A J it dyn) 12 = nI c := by rw [rI 12 (by decide) (by decide) (by decide)]; exact h1
  have i13 : (L_X8_read_I ht (upd I 10 (-1)) A J it dyn) 13 = nI F.length := by rw [rI 13 (by decide) (by decide) (by decide)]; exact h.2.2.1
  have i10 : (L_X8_read_I ht (upd I 10 (-1)) A J it dyn) 10 = -1 := by rw [k2.1 10 (by decide) (by decide), upd_s]
  have fA := k2.2.1
  have fJ := k2.2.2.2.2.1
  unfold L_X8_add_I L_X8_add_A L_X8_add_J L_X8_add_r S_X8_add
  by_cases hr : rdOK t
  · have hr1 := k3 hr
    obtain ⟨⟨x, hx⟩, he⟩ := hr
    obtain ⟨w, hp⟩ := rd_wf hT.2.1 hx
    have M := k5 x hx he
    have z1 : ¬ (1 : Int32) = 0 := by decide
    have zc : (nI c = 0) ↔ c = 0 := by rw [iL 0, nI_eq (by omega) (by omega)]
    have z16 : (nI F.length = 16) ↔ F.length = 16 := by rw [iL 16, nI_eq (by omega) (by omega)]
    have zk : (nI x.1 = 0) ↔ x.1 = 0 := by have := w.1; rw [iL 0, nI_eq (by omega) (by omega)]
    have ecl : (nI F.length).toNatClampNeg = F.length := nI_clamp (by omega)
    simp only [hr1, if_neg z1, i12, i13, zc, z16, ecl, M.1, zk]
    generalize L_X8_read_I ht (upd I 10 (-1)) A J it dyn = I2 at *
    generalize L_X8_read_A ht (upd I 10 (-1)) A J it dyn = A2 at *
    generalize L_X8_read_J ht (upd I 10 (-1)) A J it dyn = J2 at *
    have hin : vp_in (nI F.length) 17 := nI_in (by omega) (by omega)
    have hfind : x.1 = 0 → L_X8_find_r ht (upd I2 9 0) A2 J2 it dyn (A2 17 F.length) (nI F.length) = fnd F x.2.1 F.length 0 ∧ S_X8_find ht (upd I2 9 0) A2 J2 it dyn (A2 17 F.length) (nI F.length) := by
      intro h0
      rw [M.2.1 h0]
      exact fnd_M (fun k y hy => ⟨(frame0 k y hy).1, (frame0 k y hy).2.1⟩) h.1 rfl (w.2.1 h0) F.length 70 0 (by omega) (by omega)
    -- the answer of the test
    have key : (if c = 0 then (if F.length = 16 then (2 : Int32) else (if x.1 = 0 then (if L_X8_find_r ht (upd I2 9 0) A2 J2 it dyn (A2 17 F.length) (nI F.length) < 0 then 0 else 2) else 0)) else 2) = (if c = 0 ∧ F.length < 16 ∧ (x.1 = 0 → fnd F x.2.1 F.length 0 = -1) then 0 else 2) := by
      by_cases hc0 : c = 0
      · by_cases h16 : F.length = 16
        · rw [if_pos hc0, if_pos h16, if_neg (by omega)]
        · by_cases h0 : x.1 = 0
          · rw [if_pos hc0, if_neg h16, if_pos h0, (hfind h0).1]
            rcases fnd_b (F := F) (nm := x.2.1) F.length 0 with ⟨e, _⟩ | ⟨j, _, hj, _, _, e⟩
            · rw [e, if_pos (by decide), if_pos ⟨hc0, by omega, fun _ => rfl⟩]
            · rw [e, if_neg (by rw [iL 0, nI_ltI (by omega) (by omega)]; omega), if_neg]
              rintro ⟨_, _, h2⟩
              exact nI_ne1 (by omega) (h2 h0)
          · rw [if_pos hc0, if_neg h16, if_neg h0, if_pos ⟨hc0, by omega, fun h2 => absurd h2 h0⟩]
      · rw [if_neg hc0, if_neg fun h2 => hc0 h2.1]
    rw [key]
    refine ⟨⟨k1, fun _ => ⟨fun _ _ => ⟨hin, fun h0 => ⟨hin, (hfind h0).2⟩⟩, fun hle => ?_⟩⟩, fun h => absurd ⟨⟨x, hx⟩, he⟩ h, ?_⟩
    · have hcan : c = 0 ∧ F.length < 16 ∧ (x.1 = 0 → fnd F x.2.1 F.length 0 = -1) := Classical.byContradiction fun h2 => by
        rw [if_neg h2] at hle
        exact absurd hle (by decide)
      exact (addloop_M (ht := ht) (A := A2) (it := it) (dyn := dyn) (k := F.length) (by rw [upd_n _ _ (by decide), upd_n _ _ (by decide)]; exact i13) hcan.2.1 1 4 70 0 J2 rfl (by decide) (fun q hq => by rw [j30]; exact h0 hcan.1 q hq)).1
    · by_cases hcan : c = 0 ∧ F.length < 16 ∧ (x.1 = 0 → fnd F x.2.1 F.length 0 = -1)
      · simp only [if_pos hcan, show (0 : Int32) ≤ 0 by decide, if_true]
        obtain ⟨l1, l2, l3⟩ := addloop_M (ht := ht) (A := A2) (it := it) (dyn := dyn) (I := upd (upd I2 9 0) 8 0) (k := F.length) (by rw [upd_n _ _ (by decide), upd_n _ _ (by decide)]; exact i13) hcan.2.1 1 4 70 0 J2 rfl (by decide) (fun q hq => by rw [j30]; exact h0 hcan.1 q hq)
        have l2 : ∀ q : Nat, q < 64 → (Lb_X8_add_102_J 70 ht (upd (upd I2 9 0) 8 0) A2 J2 it dyn 1 0) 30 q = 0 := l2
        have l3 : ∀ a : Nat, a ≠ 30 → (Lb_X8_add_102_J 70 ht (upd (upd I2 9 0) 8 0) A2 J2 it dyn 1 0) a = J2 a := l3
        generalize Lb_X8_add_102_J 70 ht (upd (upd I2 9 0) 8 0) A2 J2 it dyn 1 0 = J3 at *
        refine ⟨?_, ?_, ?_, ?_, fA, frame l3, fun n a b => by rw [l3 n b, fJ n a], fun _ => l2, fun h => by omega⟩
        · intro y hy _ hn
          cases hx.symm.trans hy
          exact absurd ⟨hcan.1, hcan.2⟩ hn
        · intro y hy _ _ _
          cases hx.symm.trans hy
          refine ⟨by simp [upd], by simp [upd, i10], by simp [upd, nI_1], by rw [nI_1, nI_pred], M.1, M.2.1, M.2.2.1, M.2.2.2.1, M.2.2.2.2.1, fun j q hj => ?_⟩
          rw [l3 25 (by decide)]
          exact M.2.2.2.2.2 j q hj
        · simp [upd]
        · intro q a1 a2 a3 a4 a5 a6
          rw [upd_n _ _ a4, upd_n _ _ a1, upd_n _ _ a2]
          exact rI q a5 a6 a3
      · simp only [if_neg hcan, show ¬ (2 : Int32) ≤ 0 by decide, if_false]
        refine ⟨?_, ?_, ?_, ?_, fA, frame0, fun n a b => fJ n a, fun hc0 q hq => by rw [j30]; exact h0 hc0 q hq, fun _ => j30⟩
        · intro y hy _ hn
          exact ⟨by simp [upd], by simp [upd, i10], by simp [upd, i13]⟩
        · intro y hy _ hc0 hcn
          cases hx.symm.trans hy
          exact absurd ⟨hc0, hcn⟩ hcan
        · simp [upd]
        · intro q a1 a2 a3 a4 a5 a6
          rw [upd_n _ _ a1, upd_n _ _ a2]
          exact rI q a5 a6 a3
  · obtain ⟨r0, r14⟩ := k4 hr
    simp only [r0, if_true]
    generalize L_X8_read_I ht (upd I 10 (-1)) A J it dyn = I2 at *
    generalize L_X8_read_A ht (upd I 10 (-1)) A J it dyn = A2 at *
    generalize L_X8_read_J ht (upd I 10 (-1)) A J it dyn = J2 at *
    refine ⟨⟨k1, fun h => absurd trivial h⟩, fun _ => ⟨by simp [upd], by simp [upd, r14], by simp [upd, i13]⟩, fun x hx he => absurd ⟨⟨x, hx⟩, he⟩ hr, fun x hx he => absurd ⟨⟨x, hx⟩, he⟩ hr, by simp [upd], ?_, fA, frame0, fun n a b => fJ n a, fun hc0 q hq => by rw [j30]; exact h0 hc0 q hq, fun _ => j30⟩
    intro q a1 a2 a3 a4 a5 a6
    rw [upd_n _ _ a1, upd_n _ _ a3, upd_n _ _ a2]
    exact rI q a5 a6 a3
end AD
