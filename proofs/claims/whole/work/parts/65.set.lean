/-! TELLING -/
def thr (F : List aItem) (R c : Nat) (x1 x2 : Int32) : Prop := c = 1 ∧ ∃ k r : Nat, x1 = nI k ∧ x2 = nI r ∧ k < F.length ∧ r < rw1 F R k
section TH
variable {ht : Nat} {F : List aItem} {R c : Nat} {I : Nat → Int32} {A : Nat → Nat → Int32} {J : Nat → Nat → Int64} {it : Nat → Option Nat} {dyn : fsH}
theorem rw1_4 (hR : R ≤ 4) (k : Nat) : rw1 F R k ≤ 4 := by
  unfold rw1
  split
  · split <;> omega
  · omega
theorem rw1_k {k r : Nat} (h : r < rw1 F R k) : k < F.length := by
  unfold rw1 at h
  by_cases e : k < F.length
  · exact e
  · rw [if_neg e] at h; omega
theorem thr_iff (hl : F.length ≤ 16) (hR : R ≤ 4) {k r : Nat} (hk : k < 2 ^ 31) (hr : r < 2 ^ 31) : thr F R 1 (nI k) (nI r) ↔ r < rw1 F R k := by
  constructor
  · rintro ⟨_, k', r', e1, e2, a, b⟩
    have := rw1_4 (F := F) hR k'
    rw [nI_eq (by omega) (by omega)] at e1 e2
    subst e1 e2
    exact b
  · intro h
    exact ⟨rfl, k, r, rfl, rfl, rw1_k h, h⟩
theorem thr_n (hl : F.length ≤ 16) (hR : R ≤ 4) {x1 x2 : Int32} (h : thr F R c x1 x2) : ¬ x1 < 0 ∧ ¬ x2 < 0 := by
  obtain ⟨_, k, r, rfl, rfl, a, b⟩ := h
  have := rw1_4 (F := F) hR k
  refine ⟨?_, ?_⟩ <;> (rw [iL 0, nI_ltI (by omega) (by omega)]; omega)
theorem there_C (h : CF F R I it dyn) (hc : c ≤ 1) (h1 : I 1 = nI c) (x1 x2 : Int32) : S_X7_isThere ht I A J it dyn x1 x2 ∧ (thr F R c x1 x2 → L_X7_isThere_r ht I A J it dyn x1 x2 = 1) ∧ (¬ thr F R c x1 x2 → L_X7_isThere_r ht I A J it dyn x1 x2 = 0) := by
  have hl := h.1.1
  have hR := h.2.2.2.2
  unfold S_X7_isThere L_X7_isThere_r
  rw [h1]
  simp only [nI01 hc]
  by_cases e0 : c = 0
  · simp only [if_pos e0]
    exact ⟨fun h => absurd e0 h, fun h => absurd h.1 (by omega), fun _ => trivial⟩
  have e1 : c = 1 := by omega
  subst e1
  simp only [if_neg e0]
  by_cases n2 : x2 < 0
  · have nt : ¬ thr F R 1 x1 x2 := fun h => (thr_n hl hR h).2 n2
    unfold L_X1_has_r S_X1_has
    simp only [if_pos n2, if_true]
    exact ⟨fun _ h => absurd n2 h, fun h => absurd h nt, fun _ => trivial⟩
  by_cases n1 : x1 < 0
  · have nt : ¬ thr F R 1 x1 x2 := fun h => (thr_n hl hR h).1 n1
    obtain ⟨_, _, _, _, _, _, _, _, k9, k10⟩ := kind_C0 (ht := ht) (I := I) (A := A) (J := J) (it := it) (dyn := dyn) x1 n1
    have zl : (0 : Int32) ≤ x2 := by
      obtain ⟨r, hr, rfl⟩ := int32_nat n2
      rw [iL 0, nI_leI (by omega) (by omega)]; omega
    unfold L_X1_has_r S_X1_has
    simp only [if_neg n2, k9, if_pos zl, if_true]
    exact ⟨fun _ _ => k10, fun h => absurd h nt, fun _ => trivial⟩
  obtain ⟨k, hk, rfl⟩ := int32_nat n1
  obtain ⟨r, hr, rfl⟩ := int32_nat n2
  obtain ⟨a1, a2, a3⟩ := has_C (ht := ht) (A := A) (J := J) h hk hr
  rw [thr_iff hl hR hk hr]
  simp only [a1]
  refine ⟨fun _ => a2, fun h => by rw [if_neg (fun h2 => h2 h)], fun h => by rw [if_pos h]⟩
theorem there_M (h : MF F R I A J) (hc : c ≤ 1) (h1 : I 12 = nI c) (x1 x2 : Int32) : S_X8_there ht I A J it dyn x1 x2 ∧ (thr F R c x1 x2 → L_X8_there_r ht I A J it dyn x1 x2 = 1) ∧ (¬ thr F R c x1 x2 → L_X8_there_r ht I A J it dyn x1 x2 = 0) := by
  have hl := h.1.1
  have hR := h.2.2.2.2
  unfold S_X8_there L_X8_there_r
  rw [h1]
  simp only [nI01 hc]
  by_cases e0 : c = 0
  · simp only [if_pos e0]
    exact ⟨fun h => absurd e0 h, fun h => absurd h.1 (by omega), fun _ => trivial⟩
  have e1 : c = 1 := by omega
  subst e1
  simp only [if_neg e0]
  by_cases n1 : x1 < 0
  · have nt : ¬ thr F R 1 x1 x2 := fun h => (thr_n hl hR h).1 n1
    simp only [if_pos n1]
    exact ⟨fun _ h => absurd n1 h, fun h => absurd h nt, fun _ => trivial⟩
  simp only [if_neg n1]
  obtain ⟨k, hk, rfl⟩ := int32_nat n1
  have zk : (I 13 ≤ nI k) ↔ F.length ≤ k := by rw [h.2.2.1]; exact nI_leI (by omega) (by omega)
  simp only [zk]
  by_cases hkl : F.length ≤ k
  · simp only [if_pos hkl]
    have nt : ¬ thr F R 1 (nI k) x2 := fun ht => by
      obtain ⟨_, k', r', e1, e2, a, b⟩ := ht
      rw [nI_eq (by omega) (by omega)] at e1
      omega
    exact ⟨fun _ _ h => absurd hkl h, fun h => absurd h nt, fun _ => trivial⟩
  simp only [if_neg hkl]
  by_cases n2 : x2 < 0
  · have nt : ¬ thr F R 1 (nI k) x2 := fun h => (thr_n hl hR h).2 n2
    simp only [if_pos n2]
    exact ⟨fun _ _ _ h => absurd n2 h, fun h => absurd h nt, fun _ => trivial⟩
  simp only [if_neg n2]
  obtain ⟨r, hr, rfl⟩ := int32_nat n2
  obtain ⟨q1, q2, q3⟩ := rowsOf_M (ht := ht) (it := it) (dyn := dyn) h (show k < F.length by omega)
  rw [thr_iff hl hR hk hr]
  have zr : (nI (rw1 F R k) ≤ nI r) ↔ rw1 F R k ≤ r := nI_leI (by omega) (by omega)
  simp only [q1, zr]
  refine ⟨fun _ _ _ _ => q2, fun h => by rw [if_neg (by omega)], fun h => by rw [if_pos (by omega)]⟩
theorem told_C (h : CF F R I it dyn) {k : Nat} (hk : k < F.length) : S_X1_isTold ht I A J it dyn (nI k) ∧ (kd F k = 0 ∧ pl F k = [] → L_X1_isTold_r ht I A J it dyn (nI k) = 1) ∧ (¬ (kd F k = 0 ∧ pl F k = []) → L_X1_isTold_r ht I A J it dyn (nI k) = 0) := by
  have hl := h.1.1
  have hx : F[k]? = some F[k] := List.getElem?_eq_getElem hk
  obtain ⟨D, a1, a2, a3, a4, a5, _⟩ := h.at hx
  obtain ⟨k1, _, _, k4, _⟩ := kind_C (ht := ht) (A := A) (J := J) h (show k < 2 ^ 31 by omega)
  have hpl : pl F k = F[k].2.2.2.2 := by unfold pl; rw [hx]
  unfold S_X1_isTold L_X1_isTold_r
  rw [k1, nI_clamp (show k < 2 ^ 31 by omega), a5, hpl]
  have z1 : ¬ (1 : Int32) = 0 := by decide
  have hin : vp_in (nI k) 16 := nI_in (by omega) (by omega)
  refine ⟨⟨k4, fun _ => ⟨hin, a1⟩⟩, fun hh => ?_, fun hh => ?_⟩
  · rw [if_pos hh.1, if_neg z1, if_pos hh.2, if_pos rfl]
  · by_cases e : kd F k = 0
    · rw [if_pos e, if_neg z1, if_neg (fun h2 => hh ⟨e, h2⟩), if_neg (by simp)]
    · rw [if_neg e, if_pos rfl]
theorem set_65 {c : Nat} (hc : c < 64) (x1 x2 : Int32) (x3 : Int64) : S_Lb_X8_set_65 70 ht I A J it dyn x1 x2 x3 (nI c) 0 0 ∧ Lb_X8_set_65_v6 70 ht I A J it dyn x1 x2 x3 (nI c) 0 0 = nI (cnt (fun u => bt (J 32 u) c) 64) := by
  have r := lp (S := Int32) (F := fun n s v => Lb_X8_set_65_v6 n ht I A J it dyn x1 x2 x3 (nI c) s v) (SF := fun n s v => S_Lb_X8_set_65 n ht I A J it dyn x1 x2 x3 (nI c) s v) 64 (fun b s => s = nI (cnt (fun u => bt (J 32 u) c) b)) (fun s i => @ite _ (bt (J 32 i) c) (Classical.propDecidable _) (s + 1) s) ?_ ?_ 64 70 0 0 (by omega) (by omega) rfl
  · exact ⟨r.1, r.2⟩
  · intro n s i hi hP
    left
    have zb := bt_M (J 32 i) hc
    have ec : cnt (fun u => bt (J 32 u) c) (i + 1) = cnt (fun u => bt (J 32 u) c) i + (@ite _ (bt (J 32 i) c) (Classical.propDecidable _) 1 0) := rfl
    by_cases hb : bt (J 32 i) c
    · have zb := zb.mpr hb
      simp only [Lb_X8_set_65_v6, S_Lb_X8_set_65, if_neg (n64 hi), c64 hi, if_pos zb, if_pos hb, nI_1]
      refine ⟨trivial, ?_, fun hh _ => ⟨i64 hi, hh⟩⟩
      rw [ec, if_pos hb, hP, nI_1]
    · have zb := fun h => hb (zb.mp h)
      simp only [Lb_X8_set_65_v6, S_Lb_X8_set_65, if_neg (n64 hi), c64 hi, if_neg zb, if_neg hb, nI_1]
      refine ⟨trivial, ?_, fun hh _ => ⟨i64 hi, hh⟩⟩
      rw [ec, if_neg hb, hP, Nat.add_zero]
  · intro n s hP
    simp only [Lb_X8_set_65_v6, S_Lb_X8_set_65, if_pos n64e]
    exact ⟨trivial, fun h => absurd n64e h⟩
theorem HM_w {v u : Nat} (h : HM F R v u) : v < 64 ∧ wkM F R v := by
  induction h with
  | single h => exact h.1
  | tail _ _ ih => exact ih
end TH
theorem op_set (ht : Nat) (h4 : 4 ≤ ht) (h20 : ht ≤ 20) : fzO_set ht (VV ht) := by
  intro I A J it dyn x1 x2 x3 h
  have h' := h
  obtain ⟨t, F, R, c, g1, g2, g3, g4, g5, g6, g7, g8, g9, g10, g11⟩ := h'
  have hl := g7.1.1
  have hR4 := g7.2.2.2.2
  obtain ⟨t1, t2, t3⟩ := there_C (ht := ht) (A := A) (J := J) g7 g1 g5 x1 x2
  have z1 : ¬ (1 : Int32) = 0 := by decide
  have g8' : MF F R (upd I 8 0) A J := g8.cg (fun _ _ _ => rfl) rfl (upd_n _ _ (by decide)) (upd_n _ _ (by decide))
  have g6' : (upd I 8 0) 12 = nI c := by rw [upd_n _ _ (by decide)]; exact g6
  obtain ⟨m1, m2, m3⟩ := there_M (ht := ht) (it := it) (dyn := dyn) g8' g1 g6' x1 x2
  unfold L_X7_set_r L_X7_set_I L_X7_set_A L_X7_set_J S_X7_set
  by_cases hth : thr F R c x1 x2
  · have hth' := hth
    obtain ⟨hc, k, r, rfl, rfl, hk, hr⟩ := hth
    subst hc
    have hr4 := rw1_4 (F := F) hR4 k
    obtain ⟨o1, o2, o3⟩ := told_C (ht := ht) (A := A) (J := J) g7 hk
    obtain ⟨y1, y2, y3, y4⟩ := MF_kd g8 hk
    have zk : (nI (kd F k) = 0) ↔ kd F k = 0 := by rw [iL 0, nI_eq (by omega) (by omega)]
    have zp : (nI (pl F k).length ≤ 0) ↔ pl F k = [] := by
      rw [iL 0, nI_leI (by omega) (by omega)]
      exact ⟨fun h => List.length_eq_zero_iff.mp (by omega), fun h => by rw [h]; simp⟩
    have hin17 : vp_in (nI k) 17 := nI_in (by omega) (by omega)
    have e4 : (4 : Int32) * nI k + nI r = nI (4 * k + r) := by rw [iL 4, nI_mul, nI_add]
    have hck : (nI k).toNatClampNeg = k := nI_clamp (by omega)
    simp only [t2 hth', if_neg z1]
    by_cases ho : kd F k = 0 ∧ pl F k = []
    · simp only [o2 ho, if_neg z1]
      have zz : ∀ (I : Nat → Int32) (A : Nat → Nat → Int32) (J : Nat → Nat → Int64) (dyn : fsH), ((lg_cmp x3 (-1000000000000000) < 0) ↔ x3.toInt < -1000000000000000) ∧ ((lg_cmp x3 (1000000000000000) ≤ 0) ↔ x3.toInt ≤ 1000000000000000) := by
        intro _ _ _ _
        simp only [lg_cmp_lt, lg_cmp_le, Int64.lt_iff_toInt_lt, Int64.le_iff_toInt_le, limN, limP]
        exact ⟨trivial, trivial⟩
      have za := (zz I A J dyn).1
      have zb := (zz I A J dyn).2
      by_cases hlo : x3.toInt < -1000000000000000
      · have za := za.mpr hlo
        simp only [if_pos za]
        refine ⟨⟨t1, fun _ => ⟨o1, fun _ hh => absurd za hh⟩⟩, ?_⟩
        have zi := (isIn_M (ht := ht) (I := upd I 8 0) (A := A) (J := J) (it := it) (dyn := dyn) x3).1.mpr (Or.inl hlo)
        unfold L_X8_set_r L_X8_set_I L_X8_set_A L_X8_set_J S_X8_set L_X8_isWorked_r S_X8_isWorked
        simp only [m2 hth', if_neg z1, hck, y1, y3, zk, zp, if_pos ho.1, if_pos ho.2, zi, if_true]
        exact ⟨⟨m1, fun _ => ⟨hin17, fun _ => ⟨⟨hin17, fun _ => hin17⟩, fun _ hh => absurd trivial hh⟩⟩⟩, trivial, h.i8 0⟩
      have za : ¬ lg_cmp x3 (-1000000000000000) < 0 := fun hh => hlo (za.mp hh)
      simp only [if_neg za]
      by_cases hhi : x3.toInt ≤ 1000000000000000
      · have zb := zb.mpr hhi
        simp only [if_pos zb, cellOf_C]
        obtain ⟨k1, k2, k3⟩ := g11 rfl
        have k3' := k3
        obtain ⟨⟨os, hlk⟩, hfit, _, _, _, _, _, _, _, _, w11⟩ := k3
        have hv64 : 4 * k + r < 64 := by omega
        have d4 : (4 * k + r) / 4 = k := by omega
        have d5 : (4 * k + r) % 4 = r := by omega
        have hnw : ¬ wkC F R (4 * k + r) := fun hw => hw.2.2 (by rw [d4]; exact ho.2)
        have hCR : CR F R I it dyn := ⟨g7, k1, k2⟩
        obtain ⟨s1, s2, s3, s4, s5, s6, s7⟩ := tell_C (ht := ht) hCR hlk hfit g9 hv64 hnw (x := x3) ⟨x3, 0, OC_in (by omega) hhi⟩
        generalize L_X6_tell_J ht I A J it dyn (nI (4 * k + r)) x3 = J1 at *
        rw [s2]
        obtain ⟨l1, l2, l3, l4, l5⟩ := layOut_C (ht := ht) (J := J1) (A := A) h4 h20 g7
        refine ⟨⟨t1, fun _ => ⟨o1, fun _ _ _ => ⟨s1, l1⟩⟩⟩, ?_⟩
        generalize L_X3_layOut_I ht I A J1 it dyn = I1 at *
        generalize L_X3_layOut_A ht I A J1 it dyn = A1 at *
        have f8 : ∀ q : Nat, q ≠ 7 → q ≠ 8 → (upd I1 8 0) q = I q := fun q a b => by rw [upd_n _ _ b, l3 q a]
        have fA : ∀ m : Nat, 13 < m ∨ m < 10 → A1 m = A m := fun m hm => l4 m (by omega) (by omega) (by omega) (by omega)
        have hM : MF F R (upd I1 8 0) A1 J1 := g8.cg (fun n a b => fA n (by omega)) (s3 25 (by decide)) (f8 13 (by decide) (by decide)) (f8 11 (by decide) (by decide))
        obtain ⟨b1, b2, _⟩ := there_M (ht := ht) (it := it) (dyn := dyn) hM (Nat.le_refl 1) (by rw [f8 12 (by decide) (by decide)]; exact g6) (nI k) (nI r)
        obtain ⟨y1, y2, y3, y4⟩ := MF_kd hM hk
        have zi : ¬ L_X8_isIn_r ht (upd I1 8 0) A1 J1 it dyn x3 = 0 := fun hh => by
          have := (isIn_M (ht := ht) (I := upd I1 8 0) (A := A1) (J := J1) (it := it) (dyn := dyn) x3).1.mp hh
          omega
        unfold L_X8_set_r L_X8_set_I L_X8_set_A L_X8_set_J S_X8_set L_X8_isWorked_r S_X8_isWorked
        simp only [b2 hth', if_neg z1, hck, y1, y3, zk, zp, if_pos ho.1, if_pos ho.2, if_neg zi, if_true, e4, nI_clamp (show 4 * k + r < 2 ^ 31 by omega)]
        have hJ2 : ∀ m : Nat, m ≠ 30 → (va_up J1 30 (vp_updL (J1 30) (4 * k + r) x3)) m = J1 m := fun m hm => by simp [va_up, hm]
        have hJc : (va_up J1 30 (vp_updL (J1 30) (4 * k + r) x3)) 30 (4 * k + r) = x3 := by simp [va_up, vp_updL]
        have hJv : ∀ v : Nat, v ≠ 4 * k + r → (va_up J1 30 (vp_updL (J1 30) (4 * k + r) x3)) 30 v = J 30 v := fun v hv => by
          simp [va_up, vp_updL, hv]
          rw [s3 30 (by decide)]
        generalize va_up J1 30 (vp_updL (J1 30) (4 * k + r) x3) = J2 at *
        obtain ⟨e1, e2, e3, _, _, e6⟩ := fin (ht := ht) (I := upd I1 8 0) (A := A1) (J := J2) (t := t) (F := F) (R := R) (it := it) (dyn := dyn) h4 h20 (g2.get (f8 2 (by decide) (by decide)) (fA 2 (by decide))) (g3.get (f8 9 (by decide) (by decide)) (fA 15 (by decide))) (by rw [f8 0 (by decide) (by decide), f8 10 (by decide) (by decide)]; exact g4) (by rw [f8 1 (by decide) (by decide)]; exact g5) (by rw [f8 12 (by decide) (by decide)]; exact g6) ⟨g7.ic (f8 4 (by decide) (by decide)) (f8 5 (by decide) (by decide)), k1, k2⟩ (hM.cg (fun _ _ _ => rfl) (hJ2 25 (by decide)) rfl rfl) (by
            have hs : st F R ht I1 A1 J1 := ⟨⟨os, fun v hv u => by rw [s3 7 (by decide)]; exact hlk.1 v hv u, by rw [l3 6 (by decide)]; exact hlk.2.1, fun i v hv => by rw [fA 8 (by decide)]; exact hlk.2.2.1 i v hv, hlk.2.2.2.1, hlk.2.2.2.2⟩, s6, s7, l2, l5⟩
            exact hs.cg (upd_n _ _ (by decide)) (upd_n _ _ (by decide)) (fun _ _ => rfl) (hJ2 6 (by decide)) (hJ2 7 (by decide))) (fun v hv a b => by
            rw [hJ2 6 (by decide)]
            by_cases e : v = 4 * k + r
            · subst e
              rw [s4, hJc]
              exact ⟨rfl, by omega, hhi⟩
            · rw [s5 v (fun hw => hw.2.2 b) e, hJv v e]
              exact w11 v hv a b)
        obtain ⟨c1, c2⟩ := set_65 (ht := ht) (I := L_X8_refresh_I ht (upd I1 8 0) A1 J2 it dyn) (A := L_X8_refresh_A ht (upd I1 8 0) A1 J2 it dyn) (J := L_X8_refresh_J ht (upd I1 8 0) A1 J2 it dyn) (it := it) (dyn := dyn) hv64 (nI k) (nI r) x3
        refine ⟨⟨b1, fun _ => ⟨hin17, fun _ => ⟨⟨hin17, fun _ => hin17⟩, fun _ _ => ⟨i64 hv64, e1, c1⟩⟩⟩⟩, ?_, e2⟩
        rw [c2]
        have key : ∀ u : Nat, u < 64 → (((wkC F R u ∧ HC F R u (4 * k + r)) ∧ kd F (u / 4) = 0) ↔ bt ((L_X8_refresh_J ht (upd I1 8 0) A1 J2 it dyn) 32 u) (4 * k + r)) := by
          intro u hu
          rw [e6 u hu]
          constructor
          · rintro ⟨⟨a, b⟩, d⟩
            exact (HC_M g7.1 hR4 k1 hu d).mp b
          · intro hm
            have hw := (HM_w hm).2
            have hw2 := (wkMC hu).mp hw
            exact ⟨⟨hw2.1, (HC_M g7.1 hR4 k1 hu hw2.2).mpr hm⟩, hw2.2⟩
        have cc : ∀ (p q : Nat → Prop) (n : Nat), (∀ u : Nat, u < n → (p u ↔ q u)) → cnt p n = cnt q n := by
          intro p q n
          induction n with
          | zero => intro _; rfl
          | succ n ih =>
            intro hpq
            show cnt p n + (@ite _ (p n) (Classical.propDecidable _) 1 0) = cnt q n + (@ite _ (q n) (Classical.propDecidable _) 1 0)
            rw [ih (fun u hu => hpq u (by omega))]
            by_cases hp : p n
            · rw [if_pos hp, if_pos ((hpq n (by omega)).mp hp)]
            · rw [if_neg hp, if_neg (fun hq => hp ((hpq n (by omega)).mpr hq))]
        rw [cc _ _ 64 key]
      · have zb : ¬ lg_cmp x3 1000000000000000 ≤ 0 := fun hh => hhi (zb.mp hh)
        simp only [if_neg zb]
        refine ⟨⟨t1, fun _ => ⟨o1, fun _ _ hh => absurd hh zb⟩⟩, ?_⟩
        have zi := (isIn_M (ht := ht) (I := upd I 8 0) (A := A) (J := J) (it := it) (dyn := dyn) x3).1.mpr (Or.inr (by omega))
        unfold L_X8_set_r L_X8_set_I L_X8_set_A L_X8_set_J S_X8_set L_X8_isWorked_r S_X8_isWorked
        simp only [m2 hth', if_neg z1, hck, y1, y3, zk, zp, if_pos ho.1, if_pos ho.2, zi, if_true]
        exact ⟨⟨m1, fun _ => ⟨hin17, fun _ => ⟨⟨hin17, fun _ => hin17⟩, fun _ hh => absurd trivial hh⟩⟩⟩, trivial, h.i8 0⟩
    · simp only [o3 ho, if_true]
      refine ⟨⟨t1, fun _ => ⟨o1, fun hh => absurd trivial hh⟩⟩, ?_⟩
      unfold L_X8_set_r L_X8_set_I L_X8_set_A L_X8_set_J S_X8_set L_X8_isWorked_r S_X8_isWorked
      simp only [m2 hth', if_neg z1, hck, y1, y3, zk, zp]
      by_cases hk0 : kd F k = 0
      · have hpn : ¬ pl F k = [] := fun e => ho ⟨hk0, e⟩
        simp only [if_pos hk0, if_neg hpn, if_neg z1]
        exact ⟨⟨m1, fun _ => ⟨hin17, fun _ => ⟨⟨hin17, fun _ => hin17⟩, fun hh => absurd hh z1⟩⟩⟩, trivial, h.i8 0⟩
      · simp only [if_neg hk0]
        exact ⟨⟨m1, fun _ => ⟨hin17, fun hh => absurd hh hk0⟩⟩, trivial, h.i8 0⟩
  · simp only [t3 hth, if_true]
    refine ⟨⟨t1, fun hh => absurd trivial hh⟩, ?_⟩
    unfold L_X8_set_r L_X8_set_I L_X8_set_A L_X8_set_J S_X8_set
    simp only [m3 hth, if_true]
    exact ⟨⟨m1, fun hh => absurd trivial hh⟩, trivial, h.i8 0⟩
