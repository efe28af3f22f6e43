/-! WORKING OUT: the reference -/
def isf (F : List aItem) (R v : Nat) : Prop := v / 4 < F.length ∧ kd F (v / 4) = 0 ∧ v % 4 < rw1 F R (v / 4)
def wkM (F : List aItem) (R v : Nat) : Prop := isf F R v ∧ pl F (v / 4) ≠ []
def DM (F : List aItem) (R v u : Nat) : Prop := (v < 64 ∧ wkM F R v) ∧ nmL F R (v % 4) (pl F (v / 4)) u
def HM (F : List aItem) (R v u : Nat) : Prop := Relation.TransGen (DM F R) v u
def cod (v : Int64) (f : Int32) : Int64 := if f = 0 then v else lN (10000000000000000 + f.toNatClampNeg)
theorem OC_cod {o v : Int64} {f : Int32} (h : OC o v f) : o = cod v f := by
  unfold cod
  rcases h with ⟨e1, e2, _⟩ | ⟨n, n1, n2, e1, e2, e3⟩
  · rw [if_pos e1]; exact e2
  · have : ¬ f = 0 := by rw [e1, iL 0, nI_eq (by omega) (by omega)]; omega
    rw [if_neg this, e3, e1, nI_clamp (by omega)]
section WA
variable {ht : Nat} {F : List aItem} {R : Nat} {I : Nat → Int32} {it : Nat → Option Nat} {dyn : fsH}
theorem rowsOf_M {A : Nat → Nat → Int32} {J : Nat → Nat → Int64} (h : MF F R I A J) {k : Nat} (hk : k < F.length) : L_X8_rowsOf_r ht I A J it dyn (nI k) = nI (rw1 F R k) ∧ S_X8_rowsOf ht I A J it dyn (nI k) ∧ rw1 F R k ≤ 4 := by
  have hl := h.1.1
  have hR := h.2.2.2.2
  obtain ⟨r1, r2⟩ := MF_rp h hk
  unfold L_X8_rowsOf_r S_X8_rowsOf rw1
  rw [nI_clamp (by omega), r1, h.2.2.2.1]
  simp only [nI01 r2, if_pos hk]
  refine ⟨?_, ?_, ?_⟩
  · split <;> rfl
  · exact nI_in (by omega) (by omega)
  · split <;> omega
theorem rem4 : ∀ v : Nat, v < 64 → nI v - nI v / 4 * 4 = nI (v % 4) := by decide +kernel
def w2P (F : List aItem) (R : Nat) (A0 : Nat → Nat → Int32) (J0 : Nat → Nat → Int64) (i : Nat) (A : Nat → Nat → Int32) (J : Nat → Nat → Int64) : Prop :=
  (∀ v : Nat, v < i → (∀ u : Nat, bt (J 32 v) u ↔ DM F R v u) ∧ (wkM F R v → A 34 v = 0) ∧ (¬ wkM F R v → A 34 v = 1) ∧ A 31 v = 0 ∧ (isf F R v ∧ pl F (v / 4) = [] → J 30 v = J0 30 v) ∧ (¬ (isf F R v ∧ pl F (v / 4) = []) → J 30 v = 0)) ∧ (∀ v : Nat, i ≤ v → J 30 v = J0 30 v) ∧ (∀ n : Nat, n ≠ 31 → n ≠ 34 → A n = A0 n) ∧ ∀ n : Nat, n ≠ 30 → n ≠ 32 → J n = J0 n
theorem wa_2 (hok : nmOK F) {A0 : Nat → Nat → Int32} {J0 : Nat → Nat → Int64} (h0 : MF F R I A0 J0) : ∀ (m n i : Nat) (A : Nat → Nat → Int32) (J : Nat → Nat → Int64), i + m = 64 → m < n → w2P F R A0 J0 i A J → S_Lb_X8_workAll_2 n ht I A J it dyn (nI i) ∧ w2P F R A0 J0 64 (Lb_X8_workAll_2_A n ht I A J it dyn (nI i)) (Lb_X8_workAll_2_J n ht I A J it dyn (nI i)) := by
  have hl := h0.1.1
  intro m
  induction m with
  | zero =>
    intro n i A J hm hn hP
    obtain ⟨n, rfl⟩ : ∃ n', n = n' + 1 := ⟨n - 1, by omega⟩
    obtain rfl : i = 64 := by omega
    rw [S_Lb_X8_workAll_2, Lb_X8_workAll_2_A, Lb_X8_workAll_2_J]
    simp only [if_pos n64e]
    exact ⟨fun h => absurd n64e h, hP⟩
  | succ m ih =>
    intro n i A J hm hn hP
    obtain ⟨n, rfl⟩ : ∃ n', n = n' + 1 := ⟨n - 1, by omega⟩
    have hi : i < 64 := by omega
    obtain ⟨p1, p2, p3, p4⟩ := hP
    have hM : MF F R I A J := h0.cg (fun n a b => p3 n (by omega) (by omega)) (p4 25 (by decide) (by decide)) rfl rfl
    -- the next state, whatever it is
    have step : ∀ (a34 : Int32) (j32 j30 : Int64), (∀ u : Nat, bt j32 u ↔ DM F R i u) → (wkM F R i → a34 = 0) → (¬ wkM F R i → a34 = 1) → (isf F R i ∧ pl F (i / 4) = [] → j30 = J0 30 i) → (¬ (isf F R i ∧ pl F (i / 4) = []) → j30 = 0) →
        w2P F R A0 J0 (i + 1) (va_up (va_up A 34 (upd (A 34) i a34)) 31 (upd ((va_up A 34 (upd (A 34) i a34)) 31) i 0)) (va_up (va_up J 32 (vp_updL (J 32) i j32)) 30 (vp_updL ((va_up J 32 (vp_updL (J 32) i j32)) 30) i j30)) := by
      intro a34 j32 j30 h1 h2 h3 h4 h5
      refine ⟨fun v hv => ?_, fun v hv => ?_, fun n a b => by simp [va_up, a, b]; exact p3 n a b, fun n a b => by simp [va_up, a, b]; exact p4 n a b⟩
      · by_cases e : v = i
        · subst e
          have f1 : (va_up (va_up J 32 (vp_updL (J 32) v j32)) 30 (vp_updL ((va_up J 32 (vp_updL (J 32) v j32)) 30) v j30)) 32 v = j32 := by simp [va_up, vp_updL]
          have f2 : (va_up (va_up A 34 (upd (A 34) v a34)) 31 (upd ((va_up A 34 (upd (A 34) v a34)) 31) v 0)) 34 v = a34 := by simp [va_up, upd]
          have f3 : (va_up (va_up A 34 (upd (A 34) v a34)) 31 (upd ((va_up A 34 (upd (A 34) v a34)) 31) v 0)) 31 v = 0 := by simp [va_up, upd]
          have f4 : (va_up (va_up J 32 (vp_updL (J 32) v j32)) 30 (vp_updL ((va_up J 32 (vp_updL (J 32) v j32)) 30) v j30)) 30 v = j30 := by simp [va_up, vp_updL]
          rw [f1, f2, f3, f4]
          exact ⟨h1, h2, h3, rfl, h4, h5⟩
        · have := p1 v (by omega)
          simpa [va_up, upd, vp_updL, e] using this
      · have : v ≠ i := by omega
        simp [va_up, vp_updL, this]
        exact p2 v (by omega)
    have hin17 : i / 4 < 17 → vp_in (nI (i / 4)) 17 := fun h => nI_in (by omega) (by omega)
    have hik : vp_in (nI (i / 4)) 17 := hin17 (by omega)
    have hiv := i64 hi
    rw [S_Lb_X8_workAll_2, Lb_X8_workAll_2_A, Lb_X8_workAll_2_J]
    simp only [if_neg (n64 hi), c64 hi, rem4 i hi]
    simp only [div4 i hi, nI_clamp (show i / 4 < 2 ^ 31 by omega), h0.2.2.1, nI_1]
    by_cases hk : i / 4 < F.length
    · have zl : ¬ nI F.length ≤ nI (i / 4) := by rw [nI_leI (by omega) (by omega)]; omega
      obtain ⟨x, hx⟩ := F_some hk
      have w := h0.1.2 _ x hx
      have M := hM.2.1 _ x hx
      obtain ⟨c1, c2, c3, _⟩ := acc hx
      obtain ⟨r1, r2, r3⟩ := rowsOf_M (ht := ht) (it := it) (dyn := dyn) hM hk
      have zk : (nI x.1 = 0) ↔ x.1 = 0 := by have := w.1; rw [iL 0, nI_eq (by omega) (by omega)]
      have zp : (0 < nI x.2.2.2.2.length) ↔ 0 < x.2.2.2.2.length := by have := w.2.2.2.2.2.2; rw [iL 0, nI_ltI (by omega) (by omega)]
      have zp2 : (nI x.2.2.2.2.length ≤ 0) ↔ x.2.2.2.2.length = 0 := by have := w.2.2.2.2.2.2; rw [iL 0, nI_leI (by omega) (by omega)]; omega
      have zr : (nI (rw1 F R (i / 4)) ≤ nI (i % 4)) ↔ ¬ i % 4 < rw1 F R (i / 4) := by rw [nI_leI (by omega) (by omega)]; omega
      simp only [if_neg zl, M.1, M.2.2.2.2.1, zk, zp, zp2, r1, zr]
      by_cases hkd : x.1 = 0
      · simp only [if_pos hkd]
        by_cases hrow : i % 4 < rw1 F R (i / 4)
        · have hnn : ¬ ¬ i % 4 < rw1 F R (i / 4) := fun h => h hrow
          have his : isf F R i := ⟨hk, by rw [c1]; exact hkd, hrow⟩
          simp only [if_neg hnn, show ¬ (1 : Int32) = 0 by decide, if_false]
          by_cases hp0 : x.2.2.2.2.length = 0
          · have hpl : pl F (i / 4) = [] := by rw [c3]; exact List.length_eq_zero_iff.mp hp0
            have hnw : ¬ wkM F R i := fun h => h.2 hpl
            have hnp : ¬ 0 < x.2.2.2.2.length := by omega
            have e1 : vp_nar .boolean 1 = 1 := by decide
            simp only [if_neg hnp, if_pos hp0, e1]
            obtain ⟨t1, t2⟩ := ih n (i + 1) _ _ (by omega) (by omega) (step 1 0 (J0 30 i) (fun u => ⟨fun h => absurd h (bt_0 u), fun h => absurd h.1.2 hnw⟩) (fun h => absurd h hnw) (fun _ => rfl) (fun _ => rfl) (fun h => absurd ⟨his, hpl⟩ h))
            have e2 : (va_up (va_up A 34 (upd (A 34) i 1)) 31 (upd ((va_up A 34 (upd (A 34) i 1)) 31) i 0)) 34 i = 1 := by simp [va_up, upd]
            have e3 : (va_up J 32 (vp_updL (J 32) i 0)) 30 i = J0 30 i := by simp [va_up]; exact p2 i (Nat.le_refl _)
            simp only [e2, e3, show ¬ (1 : Int32) = 0 by decide, if_false]
            exact ⟨fun _ => ⟨fun _ => ⟨hik, fun _ => r2⟩, fun _ => ⟨hik, fun h => absurd hp0 h⟩, hiv, fun _ => hik, hiv, hiv, hiv, fun _ _ => hiv, hiv, t1⟩, t2⟩
          · have hpl : ¬ pl F (i / 4) = [] := by rw [c3]; intro h; rw [h] at hp0; exact hp0 rfl
            have hw : wkM F R i := ⟨his, hpl⟩
            have hpp : 0 < x.2.2.2.2.length := by omega
            have e1 : vp_nar .boolean 0 = 0 := by decide
            obtain ⟨n1, n2⟩ := names_M (ht := ht) (it := it) (dyn := dyn) hM hx (hok _ x hx) (show i % 4 < 4 by omega)
            simp only [if_pos hpp, if_neg hp0, e1]
            obtain ⟨t1, t2⟩ := ih n (i + 1) _ _ (by omega) (by omega) (step 0 (L_X8_names_r ht I A J it dyn (nI (i / 4)) (nI (i % 4))) 0 (fun u => by rw [n2 u]; unfold DM; rw [c3]; exact ⟨fun h => ⟨⟨hi, hw⟩, h⟩, fun h => h.2⟩) (fun _ => rfl) (fun h => absurd hw h) (fun h => absurd h.2 hpl) (fun _ => rfl))
            have e2 : (va_up (va_up A 34 (upd (A 34) i 0)) 31 (upd ((va_up A 34 (upd (A 34) i 0)) 31) i 0)) 34 i = 0 := by simp [va_up, upd]
            simp only [e2, if_true]
            exact ⟨fun _ => ⟨fun _ => ⟨hik, fun _ => r2⟩, fun _ => ⟨hik, fun _ => n1⟩, hiv, fun _ => hik, hiv, hiv, hiv, fun h => absurd trivial h, hiv, t1⟩, t2⟩
        · have his : ¬ isf F R i := fun h => hrow h.2.2
          have hnw : ¬ wkM F R i := fun h => his h.1
          have e1 : vp_nar .boolean 1 = 1 := by decide
          simp only [if_pos hrow, if_true, e1]
          obtain ⟨t1, t2⟩ := ih n (i + 1) _ _ (by omega) (by omega) (step 1 0 0 (fun u => ⟨fun h => absurd h (bt_0 u), fun h => absurd h.1.2 hnw⟩) (fun h => absurd h hnw) (fun _ => rfl) (fun h => absurd h.1 his) (fun _ => rfl))
          have e2 : (va_up (va_up A 34 (upd (A 34) i 1)) 31 (upd ((va_up A 34 (upd (A 34) i 1)) 31) i 0)) 34 i = 1 := by simp [va_up, upd]
          simp only [e2, show ¬ (1 : Int32) = 0 by decide, if_false]
          exact ⟨fun _ => ⟨fun _ => ⟨hik, fun _ => r2⟩, fun h => absurd trivial h, hiv, fun h => absurd trivial h, hiv, hiv, hiv, fun _ h => absurd trivial h, hiv, t1⟩, t2⟩
      · have his : ¬ isf F R i := fun h => hkd (by rw [← c1]; exact h.2.1)
        have hnw : ¬ wkM F R i := fun h => his h.1
        have e1 : vp_nar .boolean 1 = 1 := by decide
        simp only [if_neg hkd, if_true, e1]
        obtain ⟨t1, t2⟩ := ih n (i + 1) _ _ (by omega) (by omega) (step 1 0 0 (fun u => ⟨fun h => absurd h (bt_0 u), fun h => absurd h.1.2 hnw⟩) (fun h => absurd h hnw) (fun _ => rfl) (fun h => absurd h.1 his) (fun _ => rfl))
        have e2 : (va_up (va_up A 34 (upd (A 34) i 1)) 31 (upd ((va_up A 34 (upd (A 34) i 1)) 31) i 0)) 34 i = 1 := by simp [va_up, upd]
        simp only [e2, show ¬ (1 : Int32) = 0 by decide, if_false]
        exact ⟨fun _ => ⟨fun _ => ⟨hik, fun h => absurd h hkd⟩, fun h => absurd trivial h, hiv, fun h => absurd trivial h, hiv, hiv, hiv, fun _ h => absurd trivial h, hiv, t1⟩, t2⟩
    · have zl : nI F.length ≤ nI (i / 4) := by rw [nI_leI (by omega) (by omega)]; omega
      have his : ¬ isf F R i := fun h => hk h.1
      have hnw : ¬ wkM F R i := fun h => his h.1
      have e1 : vp_nar .boolean 1 = 1 := by decide
      simp only [if_pos zl, if_true, e1]
      obtain ⟨t1, t2⟩ := ih n (i + 1) _ _ (by omega) (by omega) (step 1 0 0 (fun u => ⟨fun h => absurd h (bt_0 u), fun h => absurd h.1.2 hnw⟩) (fun h => absurd h hnw) (fun _ => rfl) (fun h => absurd h.1 his) (fun _ => rfl))
      have e2 : (va_up (va_up A 34 (upd (A 34) i 1)) 31 (upd ((va_up A 34 (upd (A 34) i 1)) 31) i 0)) 34 i = 1 := by simp [va_up, upd]
      simp only [e2, show ¬ (1 : Int32) = 0 by decide, if_false]
      exact ⟨fun _ => ⟨fun h => absurd zl h, fun h => absurd trivial h, hiv, fun h => absurd trivial h, hiv, hiv, hiv, fun _ h => absurd trivial h, hiv, t1⟩, t2⟩
def w9P (F : List aItem) (R : Nat) (A0 : Nat → Nat → Int32) (i : Nat) (A : Nat → Nat → Int32) : Prop :=
  (∀ v : Nat, v < i → (HM F R v v → A 34 v = 1 ∧ A 31 v = 3) ∧ (¬ HM F R v v → A 34 v = A0 34 v ∧ A 31 v = A0 31 v)) ∧ (∀ v : Nat, i ≤ v → A 34 v = A0 34 v ∧ A 31 v = A0 31 v) ∧ ∀ n : Nat, n ≠ 31 → n ≠ 34 → A n = A0 n
theorem wa_149 {A : Nat → Nat → Int32} {J : Nat → Nat → Int64} (hH : ∀ v : Nat, v < 64 → ∀ u : Nat, bt (J 32 v) u ↔ HM F R v u) : S_Lb_X8_workAll_149 70 ht I A J it dyn 0 ∧ w9P F R A 64 (Lb_X8_workAll_149_A 70 ht I A J it dyn 0) := by
  refine lp (F := fun n A' v => Lb_X8_workAll_149_A n ht I A' J it dyn v) (SF := fun n A' v => S_Lb_X8_workAll_149 n ht I A' J it dyn v) 64 (w9P F R A) (fun A' i => if lg_cmp (((J 32 i) >>> ((nI i).toInt64 &&& 63)) &&& 1) 1 = 0 then va_up (va_up A' 34 (upd (A' 34) i 1)) 31 (upd ((va_up A' 34 (upd (A' 34) i 1)) 31) i 3) else A') ?_ ?_ 64 70 0 A rfl (by decide) ⟨fun v hv => by omega, fun v _ => ⟨rfl, rfl⟩, fun _ _ _ => rfl⟩
  · intro n A' i hi hP
    left
    obtain ⟨p1, p2, p3⟩ := hP
    have e1 : vp_nar .boolean 1 = 1 := by decide
    simp only [Lb_X8_workAll_149_A, S_Lb_X8_workAll_149, if_neg (n64 hi), c64 hi, e1, nI_1]
    refine ⟨trivial, ?_, fun h _ => ⟨i64 hi, fun _ => ⟨i64 hi, i64 hi⟩, h⟩⟩
    have hb := bt_M (J 32 i) hi
    by_cases hz : lg_cmp (((J 32 i) >>> ((nI i).toInt64 &&& 63)) &&& 1) 1 = 0
    · rw [if_pos hz]
      have hy : HM F R i i := (hH i hi i).mp (hb.mp hz)
      refine ⟨fun v hv => ?_, fun v hv => ?_, fun n a b => by simp [va_up, a, b]; exact p3 n a b⟩
      · by_cases e : v = i
        · subst e
          exact ⟨fun _ => by simp [va_up, upd], fun h => absurd hy h⟩
        · have := p1 v (by omega)
          simpa [va_up, upd, e] using this
      · have e : v ≠ i := by omega
        have := p2 v (by omega)
        simpa [va_up, upd, e] using this
    · rw [if_neg hz]
      have hy : ¬ HM F R i i := fun h => hz (hb.mpr ((hH i hi i).mpr h))
      refine ⟨fun v hv => ?_, fun v hv => p2 v (by omega), p3⟩
      by_cases e : v = i
      · subst e
        exact ⟨fun h => absurd h hy, fun _ => p2 v (Nat.le_refl _)⟩
      · exact p1 v (by omega)
  · intro n A' hP
    simp only [Lb_X8_workAll_149_A, S_Lb_X8_workAll_149, if_pos n64e]
    exact ⟨trivial, fun h => absurd n64e h⟩
theorem allK_M {A : Nat → Nat → Int32} {J : Nat → Nat → Int64} (x : Int64) : S_X8_allKnown ht I A J it dyn x ∧ (L_X8_allKnown_r ht I A J it dyn x = 0 ↔ ¬ ∀ u : Nat, u < 64 → bt x u → ¬ A 34 u = 0) := by
  have r := lp (S := Int32) (F := fun n y v => Lb_X8_allKnown_5_v3 n ht I A J it dyn x y v) (SF := fun n y v => S_Lb_X8_allKnown_5 n ht I A J it dyn x y v) 64 (fun i y => (y = 0 ∧ ¬ ∀ u : Nat, u < i → bt x u → ¬ A 34 u = 0) ∨ (y = 1 ∧ ∀ u : Nat, u < i → bt x u → ¬ A 34 u = 0)) (fun y i => if y = 0 then 0 else if lg_cmp ((x >>> ((nI i).toInt64 &&& 63)) &&& 1) 0 = 0 then 1 else if A 34 i = 0 then 0 else 1) ?_ ?_ 64 70 0 1 rfl (by decide) (Or.inr ⟨rfl, fun u h => by omega⟩)
  · obtain ⟨s, r⟩ := r
    have r : (L_X8_allKnown_r ht I A J it dyn x = 0 ∧ ¬ ∀ u : Nat, u < 64 → bt x u → ¬ A 34 u = 0) ∨ (L_X8_allKnown_r ht I A J it dyn x = 1 ∧ ∀ u : Nat, u < 64 → bt x u → ¬ A 34 u = 0) := r
    refine ⟨⟨s, narb (r.elim (fun h => Or.inl h.1) (fun h => Or.inr h.1))⟩, ?_⟩
    rcases r with ⟨a, b⟩ | ⟨a, b⟩
    · exact ⟨fun _ => b, fun _ => a⟩
    · rw [a]; exact ⟨fun h => absurd h (by decide), fun h => absurd b h⟩
  · intro n y i hi hP
    left
    simp only [Lb_X8_allKnown_5_v3, S_Lb_X8_allKnown_5, if_neg (n64 hi), c64 hi, nI_1]
    refine ⟨trivial, ?_, fun h _ => ⟨fun _ _ => i64 hi, h⟩⟩
    rcases hP with ⟨rfl, b⟩ | ⟨rfl, b⟩
    · rw [if_pos rfl]
      exact Or.inl ⟨rfl, fun h => b fun u hu => h u (by omega)⟩
    · rw [if_neg (by decide)]
      have hb := bt_M0 x hi
      by_cases hz : lg_cmp ((x >>> ((nI i).toInt64 &&& 63)) &&& 1) 0 = 0
      · rw [if_pos hz]
        refine Or.inr ⟨rfl, fun u hu hx => ?_⟩
        by_cases e : u = i
        · subst e; exact absurd hx (hb.mp hz)
        · exact b u (by omega) hx
      · have hbi : bt x i := Classical.byContradiction fun h => hz (hb.mpr h)
        rw [if_neg hz]
        by_cases ha : A 34 i = 0
        · rw [if_pos ha]
          exact Or.inl ⟨rfl, fun h => h i (by omega) hbi ha⟩
        · rw [if_neg ha]
          refine Or.inr ⟨rfl, fun u hu hx => ?_⟩
          by_cases e : u = i
          · subst e; exact ha
          · exact b u (by omega) hx
  · intro n y hP
    simp only [Lb_X8_allKnown_5_v3, S_Lb_X8_allKnown_5, if_pos n64e]
    exact ⟨trivial, fun h => absurd n64e h⟩
end WA
