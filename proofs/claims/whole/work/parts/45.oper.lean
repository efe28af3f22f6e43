/-! OPERATIONS -/
def oper (s : Nat) (x y : Int64) : Int64 := L_X6_operate_r 0 (fun _ => 0) (fun _ _ => 0) (fun _ _ => 0) (fun _ => none) [] (nI s) x y
def opv (s : Nat) (x y : Int64) : Int64 := if 1000000000000000 < x.toInt then x else if 1000000000000000 < y.toInt then y else oper s x y
section OP
variable {ht : Nat} {I : Nat → Int32} {A : Nat → Nat → Int32} {J : Nat → Nat → Int64} {it : Nat → Option Nat} {dyn : fsH}
theorem oper_eq (s : Nat) (x y : Int64) : L_X6_operate_r ht I A J it dyn (nI s) x y = oper s x y := rfl
theorem isF_C (o : Int64) : (L_X7_isFault_r ht I A J it dyn o = 0) ↔ ¬ 1000000000000000 < o.toInt := by
  unfold L_X7_isFault_r
  simp only [lg_cmp_le, Int64.le_iff_toInt_le, limP]
  by_cases h : o.toInt ≤ 1000000000000000
  · rw [if_pos h]; exact ⟨fun _ => by omega, fun _ => rfl⟩
  · rw [if_neg h]; exact ⟨fun h2 => absurd h2 (by decide), fun h2 => by omega⟩
theorem OC_F {o v : Int64} {f : Int32} (h : OC o v f) : (1000000000000000 < o.toInt) ↔ ¬ f = 0 := by
  have h1 := OC_f (ht := 0) (I := fun _ => 0) (A := fun _ _ => 0) (J := fun _ _ => 0) (it := fun _ => none) (dyn := []) h
  have h2 := isF_C (ht := 0) (I := fun _ => 0) (A := fun _ _ => 0) (J := fun _ _ => 0) (it := fun _ => none) (dyn := []) o
  constructor
  · intro a b; exact h2.mp (h1.mpr b) a
  · intro a; exact Classical.byContradiction fun b => a (h1.mp (h2.mpr b))
theorem OC_0 {o v : Int64} (h : OC o v 0) : o = v ∧ -1000000000000000 ≤ v.toInt ∧ v.toInt ≤ 1000000000000000 := by
  rcases h with ⟨_, e2, e3, e4⟩ | ⟨n, n1, n2, e1, _⟩
  · exact ⟨e2, e3, e4⟩
  · rw [iL 0, nI_eq (by omega) (by omega)] at e1; omega
theorem OC_in {v : Int64} (h1 : -1000000000000000 ≤ v.toInt) (h2 : v.toInt ≤ 1000000000000000) : OC v v 0 := Or.inl ⟨rfl, rfl, h1, h2⟩
theorem OC_n {n : Nat} (h1 : 1 ≤ n) (h2 : n ≤ 3) : OC (lN (10000000000000000 + n)) 0 (nI n) := Or.inr ⟨n, h1, h2, rfl, rfl, rfl⟩
theorem oper_S {x y : Int64} (hx1 : -1000000000000000 ≤ x.toInt) (hx2 : x.toInt ≤ 1000000000000000) (hy1 : -1000000000000000 ≤ y.toInt) (hy2 : y.toInt ≤ 1000000000000000) {s : Nat} : S_X6_operate ht I A J it dyn (nI s) x y := by
  obtain ⟨s1, a, ha, h1, rfl⟩ := sg_of hx1 hx2
  obtain ⟨s2, b, hb, h2, rfl⟩ := sg_of hy1 hy2
  refine ⟨fun _ => (prod_eq ha hb h1 h2).2.1, fun _ _ _ _ => ?_⟩
  by_cases hb0 : b = 0
  · subst hb0
    intro h
    rw [sg_0] at h
    exact absurd (by decide) h
  · obtain ⟨z, _, _, e, _⟩ := quot_eq (ht := ht) (I := I) (A := A) (J := J) (it := it) (dyn := dyn) ha hb h1 h2 (by omega)
    exact e
theorem hund_OC (c : Prop) [Decidable c] : cmF (if c then (100 : Int64) else 0) 0 = 0 ∧ cmV (if c then (100 : Int64) else 0) 0 = (if c then 100 else 0) ∧ OC (if c then (100 : Int64) else 0) (if c then (100 : Int64) else 0) 0 := by
  by_cases h : c
  · simp only [if_pos h]; exact ⟨by decide, by decide, OC_in (by decide) (by decide)⟩
  · simp only [if_neg h]; exact ⟨by decide, by decide, OC_in (by decide) (by decide)⟩
theorem worked_M {j a b s : Nat} (hj : j < 32) (ha : a < 32) (hb : b < 32) (hs : opS s) {x y : Int64} (ox : OC x (J 35 a) (A 36 a)) (oy : OC y (J 35 b) (A 36 b)) :
    ∃ (v : Int64) (f : Int32), OC (opv s x y) v f ∧ S_X8_worked ht I A J it dyn (nI j) (nI s) (nI a) (nI b) ∧ L_X8_worked_A ht I A J it dyn (nI j) (nI s) (nI a) (nI b) = va_up A 36 (upd (A 36) j f) ∧ L_X8_worked_J ht I A J it dyn (nI j) (nI s) (nI a) (nI b) = va_up J 35 (vp_updL (J 35) j v) := by
  have ia : vp_in (nI a) 32 := nI_in (by omega) (by omega)
  have ib : vp_in (nI b) 32 := nI_in (by omega) (by omega)
  have cA := fun (z : Int64) (f : Int32) => (come_M (ht := ht) (I := I) (A := A) (J := J) (it := it) (dyn := dyn) hj z f).1
  have cJ := fun (z : Int64) (f : Int32) => (come_M (ht := ht) (I := I) (A := A) (J := J) (it := it) (dyn := dyn) hj z f).2.1
  have cS := fun (z : Int64) (f : Int32) => (come_M (ht := ht) (I := I) (A := A) (J := J) (it := it) (dyn := dyn) hj z f).2.2
  unfold L_X8_worked_A L_X8_worked_J S_X8_worked opv
  simp only [nI_clamp (show a < 2 ^ 31 by omega), nI_clamp (show b < 2 ^ 31 by omega), cA, cJ, cS, OC_F ox, OC_F oy]
  by_cases fx : A 36 a = 0
  · have hnx : ¬ ¬ A 36 a = 0 := fun h => h fx
    simp only [if_pos fx, if_neg hnx]
    by_cases fy : A 36 b = 0
    · have hny : ¬ ¬ A 36 b = 0 := fun h => h fy
      simp only [if_pos fy, if_neg hny]
      rw [fx] at ox
      rw [fy] at oy
      obtain ⟨ex, x1, x2⟩ := OC_0 ox
      obtain ⟨ey, y1, y2⟩ := OC_0 oy
      rw [ex, ey]
      generalize J 35 a = xx at *
      generalize J 35 b = yy at *
      have key : ∃ (z : Int64) (f : Int32), OC (oper s xx yy) (cmV z f) (cmF z f) ∧
          ((nI s = 42 → S_X8_product ht I A J it dyn xx yy ∧ True) ∧ (nI s = 47 → ¬ lg_cmp yy 0 = 0 → (0 ≤ lg_cmp yy 0 → S_X8_divided ht I A J it dyn (100 * xx) yy) ∧ (¬ 0 ≤ lg_cmp yy 0 → S_X8_divided ht I A J it dyn (-100 * xx) (-yy)))) ∧
          (if nI s = 42 then va_up A 36 (upd (A 36) j (cmF (L_X8_product_r ht I A J it dyn xx yy) 0)) else if nI s = 43 then va_up A 36 (upd (A 36) j (cmF (xx + yy) 0)) else if nI s = 45 then va_up A 36 (upd (A 36) j (cmF (xx - yy) 0)) else if nI s = 47 then (if lg_cmp yy 0 = 0 then va_up A 36 (upd (A 36) j (cmF 0 2)) else va_up A 36 (upd (A 36) j (cmF (if 0 ≤ lg_cmp yy 0 then L_X8_divided_r ht I A J it dyn (100 * xx) yy else L_X8_divided_r ht I A J it dyn (-100 * xx) (-yy)) 0))) else if nI s = 60 then va_up A 36 (upd (A 36) j (cmF (if 0 ≤ lg_cmp xx yy then 0 else 100) 0)) else va_up A 36 (upd (A 36) j (cmF (if lg_cmp xx yy = 0 then 100 else 0) 0))) = va_up A 36 (upd (A 36) j (cmF z f)) ∧
          (if nI s = 42 then va_up J 35 (vp_updL (J 35) j (cmV (L_X8_product_r ht I A J it dyn xx yy) 0)) else if nI s = 43 then va_up J 35 (vp_updL (J 35) j (cmV (xx + yy) 0)) else if nI s = 45 then va_up J 35 (vp_updL (J 35) j (cmV (xx - yy) 0)) else if nI s = 47 then (if lg_cmp yy 0 = 0 then va_up J 35 (vp_updL (J 35) j (cmV 0 2)) else va_up J 35 (vp_updL (J 35) j (cmV (if 0 ≤ lg_cmp yy 0 then L_X8_divided_r ht I A J it dyn (100 * xx) yy else L_X8_divided_r ht I A J it dyn (-100 * xx) (-yy)) 0))) else if nI s = 60 then va_up J 35 (vp_updL (J 35) j (cmV (if 0 ≤ lg_cmp xx yy then 0 else 100) 0)) else va_up J 35 (vp_updL (J 35) j (cmV (if lg_cmp xx yy = 0 then 100 else 0) 0))) = va_up J 35 (vp_updL (J 35) j (cmV z f)) := by
        rcases hs with rfl | rfl | rfl | rfl | rfl | rfl
        · refine ⟨xx + yy, 0, lim_C (ht := 0) (I := fun _ => 0) (A := fun _ _ => 0) (J := fun _ _ => 0) (it := fun _ => none) (dyn := []) _, ⟨fun h => absurd h (by decide), fun h => absurd h (by decide)⟩, ?_, ?_⟩
          · rw [if_neg (by decide), if_pos (by decide)]
          · rw [if_neg (by decide), if_pos (by decide)]
        · refine ⟨xx - yy, 0, lim_C (ht := 0) (I := fun _ => 0) (A := fun _ _ => 0) (J := fun _ _ => 0) (it := fun _ => none) (dyn := []) _, ⟨fun h => absurd h (by decide), fun h => absurd h (by decide)⟩, ?_, ?_⟩
          · rw [if_neg (by decide), if_neg (by decide), if_pos (by decide)]
          · rw [if_neg (by decide), if_neg (by decide), if_pos (by decide)]
        · obtain ⟨s1, a', ha', h1, e1⟩ := sg_of x1 x2
          obtain ⟨s2, b', hb', h2, e2⟩ := sg_of y1 y2
          rw [e1, e2]
          obtain ⟨p1, p2, p3⟩ := prod_eq (ht := ht) (I := I) (A := A) (J := J) (it := it) (dyn := dyn) ha' hb' h1 h2
          refine ⟨_, 0, p1, ⟨fun _ => ⟨p3, trivial⟩, fun h => absurd h (by decide)⟩, ?_, ?_⟩
          · rw [if_pos (by decide)]
          · rw [if_pos (by decide)]
        · by_cases hy0 : lg_cmp yy 0 = 0
          · refine ⟨0, 2, ?_, ⟨fun h => absurd h (by decide), fun _ h => absurd hy0 h⟩, ?_, ?_⟩
            · have : oper 47 xx yy = lN (10000000000000000 + 2) := by
                unfold oper L_X6_operate_r L_X0_quotient_r
                rw [if_neg (by decide), if_neg (by decide), if_neg (by decide), if_pos (by decide), if_pos hy0]
                rfl
              rw [this]
              exact OC_n (by decide) (by decide)
            · rw [if_neg (by decide), if_neg (by decide), if_neg (by decide), if_pos (by decide), if_pos hy0]
            · rw [if_neg (by decide), if_neg (by decide), if_neg (by decide), if_pos (by decide), if_pos hy0]
          · obtain ⟨s1, a', ha', h1, e1⟩ := sg_of x1 x2
            obtain ⟨s2, b', hb', h2, e2⟩ := sg_of y1 y2
            have hb0 : 0 < b' := Nat.pos_of_ne_zero fun h => hy0 (by rw [e2, h, sg_0]; decide)
            rw [e1, e2]
            rw [e2] at hy0
            obtain ⟨z, z1, z2, z3, z4, z5⟩ := quot_eq (ht := ht) (I := I) (A := A) (J := J) (it := it) (dyn := dyn) ha' hb' h1 h2 hb0
            refine ⟨z, 0, ?_, ⟨fun h => absurd h (by decide), fun _ _ => ⟨z4, z5⟩⟩, ?_, ?_⟩
            · exact z2
            · rw [if_neg (by decide), if_neg (by decide), if_neg (by decide), if_pos (by decide), if_neg hy0, z1]
            · rw [if_neg (by decide), if_neg (by decide), if_neg (by decide), if_pos (by decide), if_neg hy0, z1]
        · refine ⟨if 0 ≤ lg_cmp xx yy then 0 else 100, 0, ?_, ⟨fun h => absurd h (by decide), fun h => absurd h (by decide)⟩, ?_, ?_⟩
          · have : oper 60 xx yy = (if 0 ≤ lg_cmp xx yy then 0 else 100) := by
              unfold oper L_X6_operate_r
              rw [if_neg (by decide), if_neg (by decide), if_neg (by decide), if_neg (by decide), if_pos (by decide)]
            rw [this]
            by_cases h : 0 ≤ lg_cmp xx yy
            · rw [if_pos h]; exact Or.inl ⟨by decide, by decide, by decide, by decide⟩
            · rw [if_neg h]; exact Or.inl ⟨by decide, by decide, by decide, by decide⟩
          · rw [if_neg (by decide), if_neg (by decide), if_neg (by decide), if_neg (by decide), if_pos (by decide)]
          · rw [if_neg (by decide), if_neg (by decide), if_neg (by decide), if_neg (by decide), if_pos (by decide)]
        · refine ⟨if lg_cmp xx yy = 0 then 100 else 0, 0, ?_, ⟨fun h => absurd h (by decide), fun h => absurd h (by decide)⟩, ?_, ?_⟩
          · have : oper 61 xx yy = (if lg_cmp xx yy = 0 then 100 else 0) := by
              unfold oper L_X6_operate_r
              rw [if_neg (by decide), if_neg (by decide), if_neg (by decide), if_neg (by decide), if_neg (by decide)]
            rw [this]
            by_cases h : lg_cmp xx yy = 0
            · rw [if_pos h]; exact Or.inl ⟨by decide, by decide, by decide, by decide⟩
            · rw [if_neg h]; exact Or.inl ⟨by decide, by decide, by decide, by decide⟩
          · rw [if_neg (by decide), if_neg (by decide), if_neg (by decide), if_neg (by decide), if_neg (by decide)]
          · rw [if_neg (by decide), if_neg (by decide), if_neg (by decide), if_neg (by decide), if_neg (by decide)]
      obtain ⟨z, f, k1, ⟨k2, k3⟩, k4, k5⟩ := key
      refine ⟨cmV z f, cmF z f, k1, ?_, k4, k5⟩
      refine ⟨ia, ib, ia, ⟨fun _ => ib, fun _ => ia⟩, fun _ => ⟨fun h => ⟨(k2 h).1, trivial⟩, fun _ => ⟨fun _ => trivial, fun _ => ⟨fun _ => trivial, fun _ => ⟨fun h => ⟨fun _ => trivial, fun h2 => ⟨k3 h h2, trivial⟩⟩, fun _ => ⟨fun _ => trivial, fun _ => trivial⟩⟩⟩⟩⟩, fun _ => trivial⟩
    · simp only [if_neg fy, if_pos fy]
      obtain ⟨e1, e2⟩ := come_OC (o := y) (v := J 35 b) (f := A 36 b) oy
      have hv : J 35 b = 0 := by
        rcases oy with ⟨e, _⟩ | ⟨_, _, _, _, e, _⟩
        · exact absurd e fy
        · exact e
      rw [hv] at e1 e2 oy
      refine ⟨0, A 36 b, oy, ?_, ?_, ?_⟩
      · exact ⟨ia, ib, ia, ⟨fun _ => ib, fun _ => ia⟩, fun h => absurd h fy, fun _ => trivial⟩
      · rw [e1]
      · rw [e2]
  · simp only [if_neg fx, if_pos fx]
    obtain ⟨e1, e2⟩ := come_OC (o := x) (v := J 35 a) (f := A 36 a) ox
    have hv : J 35 a = 0 := by
      rcases ox with ⟨e, _⟩ | ⟨_, _, _, _, e, _⟩
      · exact absurd e fx
      · exact e
    rw [hv] at e1 e2 ox
    refine ⟨0, A 36 a, ox, ?_, ?_, ?_⟩
    · exact ⟨ia, ib, ia, ⟨fun h => absurd h fx, fun _ => ia⟩, fun h => absurd h fx, fun _ => trivial⟩
    · rw [e1]
    · rw [e2]
end OP
