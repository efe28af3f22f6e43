/-! CLOSING, ROWS, TELLING -/
def toldOK (F : List aItem) (R : Nat) (J : Nat → Nat → Int64) : Prop := ∀ v : Nat, v < 64 → isf F R v → pl F (v / 4) = [] → J 6 v = J 30 v ∧ -1000000000000000 ≤ (J 30 v).toInt ∧ (J 30 v).toInt ≤ 1000000000000000
theorem OC_told {o v : Int64} {f : Int32} (h : OC o v f) (h2 : o.toInt ≤ 1000000000000000) : o = v ∧ -1000000000000000 ≤ v.toInt ∧ v.toInt ≤ 1000000000000000 := by
  by_cases e : f = 0
  · subst e; exact OC_0 h
  · exact absurd ((OC_F h).mpr e) (by omega)
/-- what the class has settled -/
def st (F : List aItem) (R ht : Nat) (I : Nat → Int32) (A : Nat → Nat → Int32) (J : Nat → Nat → Int64) : Prop := (∃ os, lnk F R os I A J) ∧ (∀ u : Nat, wkC F R u → fit F R (J 6) u) ∧ (∀ u : Nat, okO (J 6 u)) ∧ LC ht (lyF ht F R (J 6)) I A ∧ inv ht 64 (lyF ht F R (J 6))
theorem st.cg {F : List aItem} {R ht : Nat} {I I' : Nat → Int32} {A A' : Nat → Nat → Int32} {J J' : Nat → Nat → Int64} (h : st F R ht I A J) (hI6 : I' 6 = I 6) (hI7 : I' 7 = I 7) (hA : ∀ m : Nat, m = 8 ∨ m = 10 ∨ m = 11 ∨ m = 13 → A' m = A m) (hJ6 : J' 6 = J 6) (hJ7 : J' 7 = J 7) : st F R ht I' A' J' := by
  obtain ⟨⟨os, l1, l2, l3, l4, l5⟩, h2, h3, h6, h10⟩ := h
  refine ⟨⟨os, fun v hv u => by rw [hJ7]; exact l1 v hv u, by rw [hI6]; exact l2, fun i v hv => by rw [hA 8 (by omega)]; exact l3 i v hv, l4, l5⟩, by rw [hJ6]; exact h2, by rw [hJ6]; exact h3, ?_, by rw [hJ6]; exact h10⟩
  rw [hJ6]
  exact ⟨by rw [hI7]; exact h6.1, h6.2.1, by rw [hA 10 (by omega)]; exact h6.2.2.1, by rw [hA 11 (by omega)]; exact h6.2.2.2.1, by rw [hA 13 (by omega)]; exact h6.2.2.2.2⟩
theorem fin {ht : Nat} (h4 : 4 ≤ ht) (h20 : ht ≤ 20) {t : List Nat} {F : List aItem} {R : Nat} {I : Nat → Int32} {A : Nat → Nat → Int32} {J : Nat → Nat → Int64} {it : Nat → Option Nat} {dyn : fsH} (hx2 : txR 2 2 I A t) (hx9 : txR 9 15 I A t) (h0 : I 0 = I 10) (h1 : I 1 = nI 1) (h12 : I 12 = nI 1) (hC : CR F R I it dyn) (hM : MF F R I A J) (hs : st F R ht I A J) (htold : toldOK F R J) :
    S_X8_refresh ht I A J it dyn ∧ VV ht (L_X8_refresh_I ht I A J it dyn) (L_X8_refresh_A ht I A J it dyn) (L_X8_refresh_J ht I A J it dyn) it dyn ∧ MF F R (L_X8_refresh_I ht I A J it dyn) (L_X8_refresh_A ht I A J it dyn) (L_X8_refresh_J ht I A J it dyn) ∧ (L_X8_refresh_I ht I A J it dyn) 8 = I 8 ∧ (L_X8_refresh_J ht I A J it dyn) 40 = J 40 ∧ ∀ v : Nat, v < 64 → ∀ u : Nat, bt ((L_X8_refresh_J ht I A J it dyn) 32 v) u ↔ HM F R v u := by
  obtain ⟨⟨os, hl⟩, hfit, hok, hL, hinv⟩ := hs
  obtain ⟨r1, r2, r3, r4, r5, r6, r7, r8, r9, r10, r11⟩ := refresh_M (oc := J 6) (ht := ht) (it := it) (dyn := dyn) h4 h20 hM hC.2.1 hl.2.2.2.1 hl.2.2.2.2 hfit htold
  refine ⟨r1, ?_⟩
  clear r1
  generalize L_X8_refresh_I ht I A J it dyn = I' at *
  generalize L_X8_refresh_A ht I A J it dyn = A' at *
  generalize L_X8_refresh_J ht I A J it dyn = J' at *
  have j6 : J' 6 = J 6 := r4 6 (by decide) (by decide) (by decide) (by decide)
  have j7 : J' 7 = J 7 := r4 7 (by decide) (by decide) (by decide) (by decide)
  have fI : ∀ q : Nat, q < 16 → I' q = I q := fun q hq => r2 q (by omega) (by omega) (by omega) (by omega)
  have fA : ∀ m : Nat, m < 31 → A' m = A m := fun m hm => r3 m (by omega) (by omega) (by omega) (by omega) (by omega) (by omega)
  have hM' : MF F R I' A' J' := hM.cg (fun n a b => fA n (by omega)) (r4 25 (by decide) (by decide) (by decide) (by decide)) (fI 13 (by decide)) (fI 11 (by decide))
  refine ⟨⟨t, F, R, 1, by decide, hx2.get (fI 2 (by decide)) (fA 2 (by decide)), hx9.get (fI 9 (by decide)) (fA 15 (by decide)), by rw [fI 0 (by decide), fI 10 (by decide)]; exact h0, by rw [fI 1 (by decide)]; exact h1, by rw [fI 12 (by decide)]; exact h12, hC.1.ic (fI 4 (by decide)) (fI 5 (by decide)), hM', by rw [j6]; exact hok, fun e => by omega, fun _ => ⟨hC.2.1, hC.2.2, ⟨os, fun v hv u => by rw [j7]; exact hl.1 v hv u, by rw [fI 6 (by decide)]; exact hl.2.1, fun i v h => by rw [fA 8 (by decide)]; exact hl.2.2.1 i v h, hl.2.2.2.1, hl.2.2.2.2⟩, by rw [j6]; exact hfit, by rw [j6]; exact r9, r10, by rw [j6]; exact r5, ?_, by rw [j6]; exact r6, by rw [j6]; exact r7, by rw [j6]; exact r8, by rw [j6]; exact hinv, fun v a b c => ?_⟩⟩, hM', fI 8 (by decide), r4 40 (by decide) (by decide) (by decide) (by decide), r11⟩
  · rw [j6]
    exact ⟨by rw [fI 7 (by decide)]; exact hL.1, hL.2.1, by rw [fA 10 (by decide)]; exact hL.2.2.1, by rw [fA 11 (by decide)]; exact hL.2.2.2.1, by rw [fA 13 (by decide)]; exact hL.2.2.2.2⟩
  · rw [j6]
    exact OC_told (r9 v a b) (by rw [(htold v a b c).1]; exact (htold v a b c).2.2)
section VC
variable {ht : Nat} {F : List aItem} {R : Nat} {I : Nat → Int32} {A : Nat → Nat → Int32} {J : Nat → Nat → Int64} {it : Nat → Option Nat} {dyn : fsH}
def sv (F : List aItem) (R : Nat) : Nat → Nat
  | 0 => 0
  | n + 1 => sv F R n + (if kd F n = 0 then rw1 F R n else 0)
theorem MF_kd (h : MF F R I A J) {k : Nat} (hk : k < F.length) : A 16 k = nI (kd F k) ∧ kd F k ≤ 2 ∧ A 20 k = nI (pl F k).length ∧ (pl F k).length ≤ 31 := by
  have hx : F[k]? = some F[k] := List.getElem?_eq_getElem hk
  obtain ⟨b1, _, _, _, b5, _⟩ := h.2.1 k _ hx
  have w := h.1.2 k _ hx
  unfold kd pl
  rw [hx]
  exact ⟨b1, w.1, b5, w.2.2.2.2.2.2⟩
theorem vc_C (h : CF F R I it dyn) : S_X1_valueCount ht I A J it dyn ∧ L_X1_valueCount_r ht I A J it dyn = nI (sv F R F.length) := by
  have hl := h.1.1
  have r := lp (S := Int32) (F := fun n s v => Lb_X1_valueCount_4_v1 n ht I A J it dyn s v) (SF := fun n s v => S_Lb_X1_valueCount_4 n ht I A J it dyn s v) F.length (fun b s => s = nI (sv F R b)) (fun s i => if kd F i = 0 then s + nI (rw1 F R i) else s) ?_ ?_ F.length 70 0 0 (by omega) (by omega) rfl
  · exact ⟨r.1, r.2⟩
  · intro n s i hi hP
    left
    obtain ⟨k1, _, _, k4, _⟩ := kind_C (ht := ht) (A := A) (J := J) h (show i < 2 ^ 31 by omega)
    obtain ⟨_, _, q3, q4, _⟩ := rep_C (ht := ht) (A := A) (J := J) h (show i < 2 ^ 31 by omega)
    have zl : ¬ nI F.length ≤ nI i := by rw [nI_leI (by omega) (by omega)]; omega
    have z1 : ¬ (1 : Int32) = 0 := by decide
    simp only [Lb_X1_valueCount_4_v1, S_Lb_X1_valueCount_4, h.2.2.1, if_neg zl, k1, q3, nI_1]
    by_cases e : kd F i = 0
    · simp only [if_pos e, if_neg z1]
      refine ⟨trivial, ?_, fun hh _ => ⟨k4, fun _ => q4, hh⟩⟩
      rw [hP, nI_add]
      show _ = nI (sv F R i + (if kd F i = 0 then rw1 F R i else 0))
      rw [if_pos e]
    · simp only [if_neg e, if_true]
      refine ⟨trivial, ?_, fun hh _ => ⟨k4, fun _ => q4, hh⟩⟩
      rw [hP]
      show _ = nI (sv F R i + (if kd F i = 0 then rw1 F R i else 0))
      rw [if_neg e]; rfl
  · intro n s hP
    have zl : nI F.length ≤ nI F.length := by rw [nI_leI (by omega) (by omega)]; omega
    simp only [Lb_X1_valueCount_4_v1, S_Lb_X1_valueCount_4, h.2.2.1, if_pos zl]
    exact ⟨trivial, fun h => absurd zl h⟩
theorem vs_M (h : MF F R I A J) : S_X8_values ht I A J it dyn ∧ L_X8_values_r ht I A J it dyn = nI (sv F R F.length) := by
  have hl := h.1.1
  have r := lp (S := Int32) (F := fun n s v => Lb_X8_values_4_v1 n ht I A J it dyn s v) (SF := fun n s v => S_Lb_X8_values_4 n ht I A J it dyn s v) F.length (fun b s => s = nI (sv F R b)) (fun s i => s + (if kd F i = 0 then nI (rw1 F R i) else 0)) ?_ ?_ F.length 70 0 0 (by omega) (by omega) rfl
  · exact ⟨r.1, r.2⟩
  · intro n s i hi hP
    left
    obtain ⟨k1, k2, _⟩ := MF_kd h hi
    obtain ⟨q1, q2, q3⟩ := rowsOf_M (ht := ht) (it := it) (dyn := dyn) h hi
    have zl : ¬ nI F.length ≤ nI i := by rw [nI_leI (by omega) (by omega)]; omega
    have zk : (nI (kd F i) = 0) ↔ kd F i = 0 := by rw [iL 0, nI_eq (by omega) (by omega)]
    have hin : vp_in (nI i) 17 := nI_in (by omega) (by omega)
    simp only [Lb_X8_values_4_v1, S_Lb_X8_values_4, h.2.2.1, if_neg zl, nI_clamp (show i < 2 ^ 31 by omega), k1, zk, q1, nI_1]
    refine ⟨trivial, ?_, fun hh _ => ⟨hin, fun _ => q2, hh⟩⟩
    rw [hP]
    show _ = nI (sv F R i + (if kd F i = 0 then rw1 F R i else 0))
    by_cases e : kd F i = 0
    · rw [if_pos e, if_pos e, nI_add]
    · rw [if_neg e, if_neg e, iL 0, nI_add]
  · intro n s hP
    have zl : nI F.length ≤ nI F.length := by rw [nI_leI (by omega) (by omega)]; omega
    simp only [Lb_X8_values_4_v1, S_Lb_X8_values_4, h.2.2.1, if_pos zl]
    exact ⟨trivial, fun h => absurd zl h⟩
theorem fa_C : S_X6_forgetAll ht I A J it dyn ∧ (∀ n : Nat, n ≠ 6 → (L_X6_forgetAll_J ht I A J it dyn) n = J n) ∧ (∀ u : Nat, u < 64 → (L_X6_forgetAll_J ht I A J it dyn) 6 u = 0) ∧ ∀ u : Nat, 64 ≤ u → (L_X6_forgetAll_J ht I A J it dyn) 6 u = J 6 u := by
  have r := lp (F := fun n J' v => Lb_J7_fillJ_6_6_J n ht I A J' it dyn 0 v (64 : Int32)) (SF := fun n J' v => S_Lb_J7_fillJ_6_6 n ht I A J' it dyn 0 v (64 : Int32)) 64 (fun b J' => (∀ n : Nat, n ≠ 6 → J' n = J n) ∧ (∀ u : Nat, u < b → J' 6 u = 0) ∧ ∀ u : Nat, 64 ≤ u → J' 6 u = J 6 u) (fun J' i => va_up J' 6 (vp_updL (J' 6) i 0)) ?_ ?_ 64 70 0 J (by omega) (by omega) ⟨fun _ _ => rfl, fun u hu => by omega, fun _ _ => rfl⟩
  · exact ⟨r.1, r.2⟩
  · intro n J' i hi hP
    left
    simp only [Lb_J7_fillJ_6_6_J, S_Lb_J7_fillJ_6_6, if_neg (n64 hi), c64 hi, nI_1]
    refine ⟨trivial, ⟨fun n hn => by simp [va_up, hn]; exact hP.1 n hn, fun u hu => ?_, fun u hu => ?_⟩, fun hh _ => ⟨i64 hi, hh⟩⟩
    · by_cases e : u = i
      · subst e; simp [va_up, vp_updL]
      · simp [va_up, vp_updL, e]; exact hP.2.1 u (by omega)
    · have e : u ≠ i := by omega
      simp [va_up, vp_updL, e]; exact hP.2.2 u hu
  · intro n J' hP
    simp only [Lb_J7_fillJ_6_6_J, S_Lb_J7_fillJ_6_6, if_pos n64e]
    exact ⟨trivial, fun h => absurd n64e h⟩
theorem settle (h4 : 4 ≤ ht) (h20 : ht ≤ 20) (h : CR F R I it dyn) (hoc : ∀ u : Nat, okO (J 6 u)) : ∃ (I1 I2 : Nat → Int32) (A1 A2 : Nat → Nat → Int32) (J1 : Nat → Nat → Int64), L_X6_workOutAll_I ht I A J it dyn = I1 ∧ L_X6_workOutAll_A ht I A J it dyn = A1 ∧ L_X6_workOutAll_J ht I A J it dyn = J1 ∧ L_X3_layOut_I ht I1 A1 J1 it dyn = I2 ∧ L_X3_layOut_A ht I1 A1 J1 it dyn = A2 ∧ S_X6_workOutAll ht I A J it dyn ∧ S_X3_layOut ht I1 A1 J1 it dyn ∧ S_X1_valueCount ht I2 A2 J1 it dyn ∧ L_X1_valueCount_r ht I2 A2 J1 it dyn = nI (sv F R F.length) ∧ (∀ q : Nat, q ≠ 6 → q ≠ 7 → I2 q = I q) ∧ (∀ m : Nat, m ≠ 8 → m ≠ 10 → m ≠ 11 → m ≠ 12 → m ≠ 13 → A2 m = A m) ∧ (∀ m : Nat, m ≠ 6 → m ≠ 7 → J1 m = J m) ∧ (∀ u : Nat, ¬ wkC F R u → J1 6 u = J 6 u) ∧ st F R ht I2 A2 J1 := by
  obtain ⟨w1, w2, w3, w4, w5, w6, w7, w8⟩ := workOutAll_C (ht := ht) (A := A) h hoc
  refine ⟨_, _, _, _, _, rfl, rfl, rfl, rfl, rfl, ?_⟩
  refine ⟨w1, ?_⟩
  clear w1
  generalize L_X6_workOutAll_I ht I A J it dyn = I1 at *
  generalize L_X6_workOutAll_A ht I A J it dyn = A1 at *
  generalize L_X6_workOutAll_J ht I A J it dyn = J1 at *
  have hC1 : CF F R I1 it dyn := h.1.ic (w3 4 (by decide)) (w3 5 (by decide))
  obtain ⟨l1, l2, l3, l4, l5⟩ := layOut_C (ht := ht) (J := J1) (A := A1) h4 h20 hC1
  refine ⟨l1, ?_⟩
  clear l1
  generalize L_X3_layOut_I ht I1 A1 J1 it dyn = I2 at *
  generalize L_X3_layOut_A ht I1 A1 J1 it dyn = A2 at *
  have hC2 : CF F R I2 it dyn := hC1.ic (l3 4 (by decide)) (l3 5 (by decide))
  obtain ⟨v1, v2⟩ := vc_C (ht := ht) (A := A2) (J := J1) hC2
  obtain ⟨os, o1, o2, o3, o4, o5⟩ := w5
  exact ⟨v1, v2, fun q a b => by rw [l3 q b, w3 q a], fun m a b c d e => by rw [l4 m b c d e, w4 m a], fun m a b => w2 m a b, w6, ⟨os, o1, by rw [l3 6 (by decide)]; exact o2, fun i v hv => by rw [l4 8 (by decide) (by decide) (by decide) (by decide)]; exact o3 i v hv, o4, o5⟩, w7, w8, l2, l5⟩
theorem VV.ap (h : VV ht I A J it dyn) (e : fsH) : VV ht I A J it (dyn ++ e) := by
  obtain ⟨t, F, R, c, h1, h2, h3, h4, h5, h6, h7, h8, h9, h10, h11⟩ := h
  exact ⟨t, F, R, c, h1, h2, h3, h4, h5, h6, h7.cg rfl rfl e, h8, h9, h10, fun x => ⟨(h11 x).1, (h11 x).2.1.ap e, (h11 x).2.2⟩⟩
end VC
theorem op_close (ht : Nat) (h4 : 4 ≤ ht) (h20 : ht ≤ 20) : fzO_close ht (VV ht) := by
  intro I A J it dyn h
  have h' := h
  obtain ⟨t, F, R, c, g1, g2, g3, g4, g5, g6, g7, g8, g9, g10, g11⟩ := h'
  have hl := g7.1.1
  unfold L_X7_close_k L_X7_close_r L_X7_close_I L_X7_close_A L_X7_close_J L_X7_close_dyn S_X7_close
  have z1 : ¬ (1 : Int32) = 0 := by decide
  have z2 : ¬ (2 : Int32) = 0 := by decide
  have zl1 : ¬ (1 : Int32) ≤ 0 := by decide
  have zl2 : ¬ (2 : Int32) ≤ 0 := by decide
  have zl0 : (0 : Int32) ≤ 0 := by decide
  have zc : (I 1 = 0) ↔ c = 0 := by rw [g5]; exact nI01 g1
  have zm : (I 12 = 0) ↔ c = 0 := by rw [g6]; exact nI01 g1
  by_cases hc : c = 0
  · have hc1 : I 1 = 0 := zc.mpr hc
    have hc2 : I 12 = 0 := zm.mpr hc
    obtain ⟨n1, n2, n3, n4⟩ := resolveNames_C (ht := ht) (A := A) (J := J) g7
    simp only [if_pos hc1]
    by_cases hn : nmOK F
    · obtain ⟨n5, n6⟩ := n3 hn
      simp only [n5, if_neg z1, if_pos]
      generalize L_X1_resolveNames_dyn ht I A J it dyn = dy at *
      obtain ⟨f1, f2, f3, f5⟩ := fa_C (ht := ht) (I := upd I 1 1) (A := A) (J := J) (it := it) (dyn := dy)
      generalize L_X6_forgetAll_J ht (upd I 1 1) A J it dy = J0 at *
      have hC : CR F R (upd I 1 1) it dy := ⟨n2.ic (upd_n _ _ (by decide)) (upd_n _ _ (by decide)), hn, n6⟩
      obtain ⟨I1, I2, A1, A2, J1, q1, q2, q3, q4, q5, s1, s2, s3, s4, s5, s6, s7, s8, s9⟩ := settle (ht := ht) (A := A) (J := J0) h4 h20 hC (fun u => by
        by_cases hu : u < 64
        · rw [f3 u hu]; exact okO_0
        · rw [f5 u (by omega)]; exact g9 u)
      simp only [q1, q2, q3, q4, q5, s4]
      refine ⟨fun _ => ⟨n1, fun _ => ⟨f1, s1, s2, s3⟩⟩, fun j => ?_⟩
      clear q1 q2 q3 q4 q5
      have e40 : (va_up J1 40 (vp_updL (J1 40) 0 (nI (sv F R F.length)).toInt64)) 40 0 = (nI (sv F R F.length)).toInt64 := by simp [va_up, vp_updL]
      have hJ2 : ∀ m : Nat, m ≠ 40 → (va_up J1 40 (vp_updL (J1 40) 0 (nI (sv F R F.length)).toInt64)) m = J1 m := fun m hm => by simp [va_up, hm]
      generalize va_up J1 40 (vp_updL (J1 40) 0 (nI (sv F R F.length)).toInt64) = J2 at *
      have fI : ∀ q : Nat, q ≠ 6 → q ≠ 7 → q ≠ 1 → I2 q = I q := fun q a b e => by rw [s5 q a b, upd_n _ _ e]
      have fA : ∀ m : Nat, 13 < m ∨ m < 8 → A2 m = A m := fun m hm => s6 m (by omega) (by omega) (by omega) (by omega) (by omega)
      have fJ : ∀ m : Nat, m ≠ 6 → m ≠ 7 → m ≠ 40 → J2 m = J m := fun m a b e => by rw [hJ2 m e, s7 m a b, f2 m a]
      have hM : MF F R I2 A2 J2 := g8.cg (fun n a b => fA n (by omega)) (fJ 25 (by decide) (by decide) (by decide)) (fI 13 (by decide) (by decide) (by decide)) (fI 11 (by decide) (by decide) (by decide))
      obtain ⟨c1, c2, _⟩ := closeG_M (ht := ht) (it := it) (dyn := dy ++ List.replicate j none) hM
      have hm12 : I2 12 = 0 := by rw [fI 12 (by decide) (by decide) (by decide)]; exact hc2
      unfold S_X8_close L_X8_close_I L_X8_close_A L_X8_close_J L_X8_close_r L_X8_thrown_r
      simp only [c2 hn, if_neg z1, if_pos hm12, if_pos zl0]
      have ff : ∀ q : Nat, q ≠ 6 → q ≠ 7 → q ≠ 1 → q ≠ 8 → q ≠ 12 → (upd (upd I2 8 0) 12 1) q = I q := fun q a b e d f => by rw [upd_n _ _ f, upd_n _ _ d, fI q a b e]
      have hR := (g10 hc)
      obtain ⟨e1, e2, e3, e4, e5, _⟩ := fin (ht := ht) (I := upd (upd I2 8 0) 12 1) (A := A2) (J := J2) (t := t) (F := F) (R := R) (it := it) (dyn := dy ++ List.replicate j none) h4 h20 (g2.get (ff 2 (by decide) (by decide) (by decide) (by decide) (by decide)) (fA 2 (by decide))) (g3.get (ff 9 (by decide) (by decide) (by decide) (by decide) (by decide)) (fA 15 (by decide))) (by rw [ff 0 (by decide) (by decide) (by decide) (by decide) (by decide), ff 10 (by decide) (by decide) (by decide) (by decide) (by decide)]; exact g4) (by rw [upd_n _ _ (by decide), upd_n _ _ (by decide), s5 1 (by decide) (by decide), upd_s]; rfl) (by rw [upd_s]; rfl) ⟨n2.cg (ff 4 (by decide) (by decide) (by decide) (by decide) (by decide)) (ff 5 (by decide) (by decide) (by decide) (by decide) (by decide)) _, hn, n6.ap _⟩ (hM.cg (fun _ _ _ => rfl) rfl (by rw [upd_n _ _ (by decide), upd_n _ _ (by decide)]) (by rw [upd_n _ _ (by decide), upd_n _ _ (by decide)])) (s9.cg (by rw [upd_n _ _ (by decide), upd_n _ _ (by decide)]) (by rw [upd_n _ _ (by decide), upd_n _ _ (by decide)]) (fun _ _ => rfl) (hJ2 6 (by decide)) (hJ2 7 (by decide))) (fun v hv a b => by
          have hw : ¬ wkC F R v := fun hw => hw.2.2 b
          rw [hJ2 6 (by decide), s8 v hw, f3 v hv, fJ 30 (by decide) (by decide) (by decide), hR.2 v hv]
          exact ⟨rfl, by decide, by decide⟩)
      obtain ⟨v1, v2⟩ := vs_M (ht := ht) (it := it) (dyn := dy ++ List.replicate j none) e3
      refine ⟨⟨c1, fun _ => ⟨e1, v1⟩⟩, ?_, fun _ => ?_, e2⟩
      · rw [e4, upd_n _ _ (by decide), upd_s]
      · rw [e5, v2]; exact e40
    · have n5 := n4 hn
      simp only [n5, if_pos, if_neg z1]
      refine ⟨fun _ => ⟨n1, fun hh => absurd trivial hh⟩, fun j => ?_⟩
      obtain ⟨c1, _, c2⟩ := closeG_M (ht := ht) (it := it) (dyn := L_X1_resolveNames_dyn ht I A J it dyn ++ List.replicate j none) g8
      unfold S_X8_close L_X8_close_I L_X8_close_A L_X8_close_J L_X8_close_r L_X8_thrown_r
      simp only [c2 hn, if_pos, if_neg zl1]
      refine ⟨⟨c1, fun hh => absurd hh zl1⟩, upd_s _ _ _, fun hh => absurd hh z1, ?_⟩
      have hv : VV ht I A J it (L_X1_resolveNames_dyn ht I A J it dyn) := ⟨t, F, R, c, g1, g2, g3, g4, g5, g6, n2, g8, g9, g10, fun e => by omega⟩
      exact (hv.ap _).i8 1
  · have hc1 : ¬ I 1 = 0 := fun e => hc (zc.mp e)
    have hc2 : ¬ I 12 = 0 := fun e => hc (zm.mp e)
    simp only [if_neg hc1, if_neg z2]
    refine ⟨fun e => absurd e hc1, fun j => ?_⟩
    obtain ⟨c1, c2, _⟩ := closeG_M (ht := ht) (it := it) (dyn := dyn ++ List.replicate j none) g8
    unfold S_X8_close L_X8_close_I L_X8_close_A L_X8_close_J L_X8_close_r L_X8_thrown_r
    simp only [c2 (g11 (by omega)).1, if_neg z1, if_neg hc2, if_neg zl2]
    exact ⟨⟨c1, fun hh => absurd hh zl2⟩, upd_s _ _ _, fun hh => absurd hh z2, (h.ap _).i8 2⟩
