/-! ROWS -/
section FR
variable {ht : Nat} {F : List aItem} {R : Nat} {I : Nat → Int32} {A : Nat → Nat → Int32} {J : Nat → Nat → Int64} {it : Nat → Option Nat} {dyn : fsH}
theorem fr_19 (h : CF F R I it dyn) (J0 : Nat → Nat → Int64) {k m : Nat} (hk : k < F.length) (hm : m ≤ 4) : S_Lb_X6_forgetRowsFrom_19 70 ht I A J0 it dyn (nI m) (nI k) (nI m) ∧ (∀ n : Nat, n ≠ 6 → (Lb_X6_forgetRowsFrom_19_J 70 ht I A J0 it dyn (nI m) (nI k) (nI m)) n = J0 n) ∧ ∀ u : Nat, (Lb_X6_forgetRowsFrom_19_J 70 ht I A J0 it dyn (nI m) (nI k) (nI m)) 6 u = if u / 4 = k ∧ rp F k = 1 ∧ m ≤ u % 4 then 0 else J0 6 u := by
  have hl := h.1.1
  have r := lp (F := fun n J' v => Lb_X6_forgetRowsFrom_19_J n ht I A J' it dyn (nI m) (nI k) v) (SF := fun n J' v => S_Lb_X6_forgetRowsFrom_19 n ht I A J' it dyn (nI m) (nI k) v) 4 (fun b J' => m ≤ b ∧ (∀ n : Nat, n ≠ 6 → J' n = J0 n) ∧ ∀ u : Nat, J' 6 u = if u / 4 = k ∧ rp F k = 1 ∧ m ≤ u % 4 ∧ u % 4 < b then 0 else J0 6 u) (fun J' i => va_up J' 6 (vp_updL (J' 6) (4 * k + i) 0)) ?_ ?_ (4 - m) 70 m J0 (by omega) (by omega) ⟨Nat.le_refl _, fun _ _ => rfl, fun u => by rw [if_neg (by omega)]⟩
  · refine ⟨r.1, r.2.2.1, fun u => ?_⟩
    have hh := r.2.2.2 u
    have : u % 4 < 4 := Nat.mod_lt _ (by decide)
    simp only [this, and_true] at hh
    exact hh
  · intro n J' i hi ⟨hmi, hP⟩
    obtain ⟨q1, q2, _, _, q5, _⟩ := rep_C (ht := ht) (A := A) (J := J') h (show k < 2 ^ 31 by omega)
    have z4 : ¬ (4 : Int32) ≤ nI i := by rw [iL 4, nI_leI (by omega) (by omega)]; omega
    have zr : (nI (rp F k) = 0) ↔ rp F k = 0 := nI01 q5
    by_cases e : rp F k = 0
    · right
      simp only [Lb_X6_forgetRowsFrom_19_J, S_Lb_X6_forgetRowsFrom_19, if_neg z4, q1, zr, if_pos e]
      refine ⟨trivial, fun _ => ⟨q2, fun hh => absurd e hh⟩, hm, hP.1, fun u => ?_⟩
      rw [hP.2 u, if_neg (by omega), if_neg (by omega)]
    · left
      have hcell : vp_in (nI (4 * k + i)) 64 := nI_in (by omega) (by omega)
      simp only [Lb_X6_forgetRowsFrom_19_J, S_Lb_X6_forgetRowsFrom_19, if_neg z4, q1, zr, if_neg e, cellOf_C, nI_clamp (show 4 * k + i < 2 ^ 31 by omega), nI_1]
      refine ⟨trivial, ⟨by omega, fun n hn => by simp [va_up, hn]; exact hP.1 n hn, fun u => ?_⟩, fun hh _ => ⟨q2, fun _ => ⟨hcell, hh⟩⟩⟩
      have rle := rp_le h.1 k
      by_cases e2 : u = 4 * k + i
      · rw [if_pos (by omega)]
        subst e2
        simp [va_up, vp_updL]
      · have : (va_up J' 6 (vp_updL (J' 6) (4 * k + i) 0)) 6 u = J' 6 u := by simp [va_up, vp_updL, e2]
        rw [this, hP.2 u]
        by_cases e3 : u / 4 = k ∧ rp F k = 1 ∧ m ≤ u % 4 ∧ u % 4 < i
        · rw [if_pos e3, if_pos (by omega)]
        · rw [if_neg e3, if_neg (by omega)]
  · intro n J' hP
    have z4 : (4 : Int32) ≤ nI 4 := by decide
    simp only [Lb_X6_forgetRowsFrom_19_J, S_Lb_X6_forgetRowsFrom_19, if_pos z4]
    exact ⟨trivial, fun h => absurd z4 h⟩
theorem fr_C (h : CF F R I it dyn) {m : Nat} (hm : m ≤ 4) : S_X6_forgetRowsFrom ht I A J it dyn (nI m) ∧ (∀ n : Nat, n ≠ 6 → (L_X6_forgetRowsFrom_J ht I A J it dyn (nI m)) n = J n) ∧ ∀ u : Nat, (L_X6_forgetRowsFrom_J ht I A J it dyn (nI m)) 6 u = if u / 4 < F.length ∧ rp F (u / 4) = 1 ∧ m ≤ u % 4 then 0 else J 6 u := by
  have hl := h.1.1
  have zm : ¬ nI m < 0 := by rw [iL 0, nI_ltI (by omega) (by omega)]; omega
  have r := lp (F := fun n J' v => Lb_X6_forgetRowsFrom_2_J n ht I A J' it dyn (nI m) v) (SF := fun n J' v => S_Lb_X6_forgetRowsFrom_2 n ht I A J' it dyn (nI m) v) F.length (fun b J' => (∀ n : Nat, n ≠ 6 → J' n = J n) ∧ ∀ u : Nat, J' 6 u = if u / 4 < b ∧ rp F (u / 4) = 1 ∧ m ≤ u % 4 then 0 else J 6 u) (fun J' k => Lb_X6_forgetRowsFrom_19_J 70 ht I A J' it dyn (nI m) (nI k) (nI m)) ?_ ?_ F.length 70 0 J (by omega) (by omega) ⟨fun _ _ => rfl, fun u => by rw [if_neg (by omega)]⟩
  · exact ⟨r.1, r.2⟩
  · intro n J' i hi hP
    left
    obtain ⟨f1, f2, f3⟩ := fr_19 (ht := ht) (A := A) h J' hi hm
    have zl : ¬ nI F.length ≤ nI i := by rw [nI_leI (by omega) (by omega)]; omega
    simp only [Lb_X6_forgetRowsFrom_2_J, S_Lb_X6_forgetRowsFrom_2, h.2.2.1, if_neg zl, if_neg zm, nI_1]
    refine ⟨trivial, ⟨fun n hn => by rw [f2 n hn]; exact hP.1 n hn, fun u => ?_⟩, fun hh _ => ⟨f1, hh⟩⟩
    rw [f3 u, hP.2 u]
    by_cases e : u / 4 = i
    · subst e
      by_cases e2 : rp F (u / 4) = 1 ∧ m ≤ u % 4
      · rw [if_pos ⟨rfl, e2⟩, if_pos ⟨by omega, e2⟩]
      · rw [if_neg (fun h => e2 h.2), if_neg (fun h => e2 h.2), if_neg (fun h => e2 h.2)]
    · rw [if_neg (fun h => e h.1)]
      by_cases e2 : u / 4 < i ∧ rp F (u / 4) = 1 ∧ m ≤ u % 4
      · rw [if_pos e2, if_pos ⟨by omega, e2.2⟩]
      · rw [if_neg e2, if_neg (fun h => e2 ⟨by omega, h.2⟩)]
  · intro n J' hP
    have zl : nI F.length ≤ nI F.length := by rw [nI_leI (by omega) (by omega)]; omega
    simp only [Lb_X6_forgetRowsFrom_2_J, S_Lb_X6_forgetRowsFrom_2, h.2.2.1, if_pos zl]
    exact ⟨trivial, fun h => absurd zl h⟩
theorem rows_25 (h : MF F R I A J) {n : Nat} (hn : n ≤ 4) : S_Lb_X8_rows_25 70 ht I A J it dyn (nI n) 0 ∧ (∀ m : Nat, m ≠ 30 → (Lb_X8_rows_25_J 70 ht I A J it dyn (nI n) 0) m = J m) ∧ ∀ u : Nat, u < 64 → (Lb_X8_rows_25_J 70 ht I A J it dyn (nI n) 0) 30 u = if ¬ u % 4 < n ∧ u / 4 < F.length ∧ rp F (u / 4) = 1 then 0 else J 30 u := by
  have hl := h.1.1
  have r := lp (F := fun m J' v => Lb_X8_rows_25_J m ht I A J' it dyn (nI n) v) (SF := fun m J' v => S_Lb_X8_rows_25 m ht I A J' it dyn (nI n) v) 64 (fun b J' => (∀ m : Nat, m ≠ 30 → J' m = J m) ∧ ∀ u : Nat, J' 30 u = if u < b ∧ ¬ u % 4 < n ∧ u / 4 < F.length ∧ rp F (u / 4) = 1 then 0 else J 30 u) (fun J' i => va_up J' 30 (vp_updL (J' 30) i (if i % 4 < n then J' 30 i else if F.length ≤ i / 4 then J' 30 i else if A 18 (i / 4) = 0 then J' 30 i else 0))) ?_ ?_ 64 70 0 J (by omega) (by omega) ⟨fun _ _ => rfl, fun u => by rw [if_neg (by omega)]⟩
  · refine ⟨r.1, r.2.1, fun u hu => ?_⟩
    have hh := r.2.2 u
    simp only [hu, true_and] at hh
    exact hh
  · intro m J' i hi hP
    left
    have e1 : nI i - nI i / 4 * 4 = nI (i % 4) := rem4 i hi
    have e2 : nI i / 4 = nI (i / 4) := div4 i hi
    have z1 : (nI (i % 4) < nI n) ↔ i % 4 < n := nI_ltI (by omega) (by omega)
    have z2 : (nI F.length ≤ nI (i / 4)) ↔ F.length ≤ i / 4 := nI_leI (by omega) (by omega)
    have hin : vp_in (nI (i / 4)) 17 := nI_in (by omega) (by omega)
    simp only [Lb_X8_rows_25_J, S_Lb_X8_rows_25, if_neg (n64 hi), e1]
    simp only [e2, z1, z2, c64 hi, nI_clamp (show i / 4 < 2 ^ 31 by omega), nI_1, h.2.2.1]
    refine ⟨trivial, ⟨fun m hm => by simp [va_up, hm]; exact hP.1 m hm, fun u => ?_⟩, fun hh _ => ⟨⟨fun _ => i64 hi, fun _ => ⟨fun _ => i64 hi, fun _ => ⟨hin, fun _ => i64 hi⟩⟩⟩, i64 hi, hh⟩⟩
    by_cases e : u = i
    · subst e
      have hP2 := hP.2 u
      rw [if_neg (by omega)] at hP2
      have : ∀ w : Int64, (va_up J' 30 (vp_updL (J' 30) u w)) 30 u = w := fun w => by simp [va_up, vp_updL]
      rw [this, hP2]
      by_cases a1 : u % 4 < n
      · rw [if_pos a1, if_neg (by omega)]
      · rw [if_neg a1]
        by_cases a2 : F.length ≤ u / 4
        · rw [if_pos a2, if_neg (by omega)]
        · rw [if_neg a2]
          obtain ⟨m1, m2⟩ := MF_rp h (show u / 4 < F.length by omega)
          rw [m1]
          simp only [nI01 m2]
          by_cases a3 : rp F (u / 4) = 0
          · rw [if_pos a3, if_neg (by omega)]
          · rw [if_neg a3, if_pos ⟨by omega, a1, by omega, by omega⟩]
    · have : ∀ w : Int64, (va_up J' 30 (vp_updL (J' 30) i w)) 30 u = J' 30 u := fun w => by simp [va_up, vp_updL, e]
      rw [this, hP.2 u]
      by_cases a : u < i ∧ ¬ u % 4 < n ∧ u / 4 < F.length ∧ rp F (u / 4) = 1
      · rw [if_pos a, if_pos ⟨by omega, a.2⟩]
      · rw [if_neg a, if_neg (fun h => a ⟨by omega, h.2⟩)]
  · intro m J' hP
    simp only [Lb_X8_rows_25_J, S_Lb_X8_rows_25, if_pos n64e]
    exact ⟨trivial, fun h => absurd n64e h⟩
end FR
theorem op_rows (ht : Nat) (h4 : 4 ≤ ht) (h20 : ht ≤ 20) : fzO_rows ht (VV ht) := by
  intro I A J it dyn x1 h
  have h' := h
  obtain ⟨t, F, R, c, g1, g2, g3, g4, g5, g6, g7, g8, g9, g10, g11⟩ := h'
  have hl := g7.1.1
  have hR4 := g7.2.2.2.2
  unfold L_X7_rows_r L_X7_rows_I L_X7_rows_A L_X7_rows_J S_X7_rows
  have zc : (I 1 = 0) ↔ c = 0 := by rw [g5]; exact nI01 g1
  have zm : (I 12 = 0) ↔ c = 0 := by rw [g6]; exact nI01 g1
  by_cases hc : c = 0
  · have hc1 : I 1 = 0 := zc.mpr hc
    have hc2 : I 12 = 0 := zm.mpr hc
    simp only [if_pos hc1]
    unfold L_X8_rows_r L_X8_rows_I L_X8_rows_A L_X8_rows_J S_X8_rows
    simp only [if_pos hc2]
    exact ⟨fun e => absurd hc1 e, fun e => absurd hc2 e, trivial, h.i8 0⟩
  have hc1 : ¬ I 1 = 0 := fun e => hc (zc.mp e)
  have hc2 : ¬ I 12 = 0 := fun e => hc (zm.mp e)
  simp only [if_neg hc1]
  by_cases hx : x1 < 0
  · simp only [if_pos hx]
    unfold L_X8_rows_r L_X8_rows_I L_X8_rows_A L_X8_rows_J S_X8_rows
    simp only [if_neg hc2, if_pos hx]
    exact ⟨fun _ e => absurd hx e, fun _ e => absurd hx e, trivial, h.i8 0⟩
  simp only [if_neg hx]
  by_cases hx4 : x1 ≤ 4
  · simp only [if_pos hx4]
    obtain ⟨n, hn, rfl⟩ := int32_nat hx
    have hn4 : n ≤ 4 := by rw [iL 4, nI_leI (by omega) (by omega)] at hx4; exact hx4
    have em : (if I 5 < nI n then I 5 else nI n) = nI (min R n) := by
      rw [g7.2.2.2.1]
      by_cases e : R < n
      · rw [if_pos ((nI_ltI (by omega) (by omega)).mpr e), Nat.min_eq_left (by omega)]
      · rw [if_neg (fun h => e ((nI_ltI (by omega) (by omega)).mp h)), Nat.min_eq_right (by omega)]
    simp only [em]
    obtain ⟨f1, f2, f3⟩ := fr_C (ht := ht) (A := A) (J := J) g7 (show min R n ≤ 4 by omega)
    generalize L_X6_forgetRowsFrom_J ht I A J it dyn (nI (min R n)) = J0 at *
    obtain ⟨k1, k2, k3⟩ := g11 (by omega)
    obtain ⟨_, _, _, y4, _, _, _, _, _, _, y11⟩ := k3
    have hC : CR F n (upd I 5 (nI n)) it dyn := ⟨⟨g7.1, g7.2.1, by rw [upd_n _ _ (by decide)]; exact g7.2.2.1, upd_s _ _ _, hn4⟩, k1, k2⟩
    obtain ⟨I1, I2, A1, A2, J1, q1, q2, q3, q4, q5, s1, s2, s3, s4, s5, s6, s7, s8, s9⟩ := settle (ht := ht) (A := A) (J := J0) h4 h20 hC (fun u => by
      rw [f3 u]
      split
      · exact okO_0
      · exact g9 u)
    simp only [q1, q2, q3, q4, q5, s4]
    refine ⟨fun _ _ _ => ⟨f1, s1, s2, s3⟩, ?_⟩
    clear q1 q2 q3 q4 q5
    have fI : ∀ q : Nat, q ≠ 6 → q ≠ 7 → q ≠ 5 → I2 q = I q := fun q a b e => by rw [s5 q a b, upd_n _ _ e]
    have fA : ∀ m : Nat, 13 < m ∨ m < 8 → A2 m = A m := fun m hm => s6 m (by omega) (by omega) (by omega) (by omega) (by omega)
    have fJ : ∀ m : Nat, m ≠ 6 → m ≠ 7 → J1 m = J m := fun m a b => by rw [s7 m a b, f2 m a]
    have f8 : ∀ q : Nat, q ≠ 6 → q ≠ 7 → q ≠ 5 → q ≠ 8 → (upd I2 8 0) q = I q := fun q a b e d => by rw [upd_n _ _ d, fI q a b e]
    have hM : MF F R (upd I2 8 0) A2 J1 := g8.cg (fun n a b => fA n (by omega)) (fJ 25 (by decide) (by decide)) (f8 13 (by decide) (by decide) (by decide) (by decide)) (f8 11 (by decide) (by decide) (by decide) (by decide))
    obtain ⟨r1, r2, r3⟩ := rows_25 (ht := ht) (it := it) (dyn := dyn) hM hn4
    have hm12 : ¬ I2 12 = 0 := by rw [fI 12 (by decide) (by decide) (by decide)]; exact hc2
    unfold L_X8_rows_r L_X8_rows_I L_X8_rows_A L_X8_rows_J S_X8_rows
    simp only [if_neg hm12, if_neg hx, if_pos hx4]
    generalize Lb_X8_rows_25_J 70 ht (upd I2 8 0) A2 J1 it dyn (nI n) 0 = J2 at *
    have ff : ∀ q : Nat, q ≠ 6 → q ≠ 7 → q ≠ 5 → q ≠ 8 → q ≠ 11 → (upd (upd I2 8 0) 11 (nI n)) q = I q := fun q a b e d f => by rw [upd_n _ _ f, f8 q a b e d]
    have hM2 : MF F R (upd I2 8 0) A2 J2 := hM.cg (fun _ _ _ => rfl) (r2 25 (by decide)) rfl rfl
    obtain ⟨e1, e2, e3, e4, e5, _⟩ := fin (ht := ht) (I := upd (upd I2 8 0) 11 (nI n)) (A := A2) (J := J2) (t := t) (F := F) (R := n) (it := it) (dyn := dyn) h4 h20 (g2.get (ff 2 (by decide) (by decide) (by decide) (by decide) (by decide)) (fA 2 (by decide))) (g3.get (ff 9 (by decide) (by decide) (by decide) (by decide) (by decide)) (fA 15 (by decide))) (by rw [ff 0 (by decide) (by decide) (by decide) (by decide) (by decide), ff 10 (by decide) (by decide) (by decide) (by decide) (by decide)]; exact g4) (by rw [ff 1 (by decide) (by decide) (by decide) (by decide) (by decide), g5, show c = 1 by omega]) (by rw [ff 12 (by decide) (by decide) (by decide) (by decide) (by decide), g6, show c = 1 by omega]) ⟨⟨g7.1, g7.2.1, by rw [ff 4 (by decide) (by decide) (by decide) (by decide) (by decide)]; exact g7.2.2.1, by rw [upd_n _ _ (by decide), upd_n _ _ (by decide), s5 5 (by decide) (by decide), upd_s], hn4⟩, k1, k2⟩ ⟨hM2.1, hM2.2.1, by rw [upd_n _ _ (by decide)]; exact hM2.2.2.1, upd_s _ _ _, hn4⟩ (s9.cg (by rw [upd_n _ _ (by decide), upd_n _ _ (by decide)]) (by rw [upd_n _ _ (by decide), upd_n _ _ (by decide)]) (fun _ _ => rfl) (r2 6 (by decide)) (r2 7 (by decide))) (fun v hv a b => by
        have hw : ¬ wkC F n v := fun hw => hw.2.2 b
        obtain ⟨a1, a2, a3⟩ := a
        have rpl := rp_le g7.1 (v / 4)
        rw [r2 6 (by decide), s8 v hw, f3 v, r3 v hv, fJ 30 (by decide) (by decide)]
        unfold rw1 at a3
        rw [if_pos a1] at a3
        by_cases er : rp F (v / 4) = 0
        · rw [if_pos er] at a3
          rw [if_neg (by omega), if_neg (by omega)]
          refine y11 v hv ⟨a1, a2, ?_⟩ b
          unfold rw1
          rw [if_pos a1, if_pos er]
          exact a3
        · rw [if_neg er] at a3
          rw [show (if ¬ v % 4 < n ∧ v / 4 < F.length ∧ rp F (v / 4) = 1 then (0 : Int64) else J 30 v) = J 30 v from if_neg (fun h => h.1 a3)]
          by_cases e2 : R ≤ v % 4
          · rw [if_pos ⟨a1, by omega, by omega⟩]
            have := (y4 v hv (fun hf => by
              have := hf.2.2
              unfold rw1 at this
              rw [if_pos a1, if_neg er] at this
              omega)).2
            rw [this]
            exact ⟨rfl, by decide, by decide⟩
          · rw [if_neg (fun h => by omega)]
            refine y11 v hv ⟨a1, a2, ?_⟩ b
            unfold rw1
            rw [if_pos a1, if_neg er]
            omega)
    obtain ⟨v1, v2⟩ := vs_M (ht := ht) (it := it) (dyn := dyn) e3
    exact ⟨fun _ _ _ => ⟨r1, e1, v1⟩, v2.symm, e2⟩
  · simp only [if_neg hx4]
    unfold L_X8_rows_r L_X8_rows_I L_X8_rows_A L_X8_rows_J S_X8_rows
    simp only [if_neg hc2, if_neg hx, if_neg hx4]
    exact ⟨fun _ _ e => absurd e hx4, fun _ _ e => absurd e hx4, trivial, h.i8 0⟩
