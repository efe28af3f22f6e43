/-! REFRESHING: the reference -/
noncomputable def mrow (oc : Nat → Int64) (k : Nat) : Nat → Nat → List Nat
  | 0, _ => []
  | m + 1, r => (@ite _ (flo (oc (4 * k + r))) (Classical.propDecidable _) [8 * k + r] []) ++ mrow oc k m (r + 1)
noncomputable def mall (F : List aItem) (R : Nat) (oc : Nat → Int64) : Nat → Nat → List Nat
  | 0, _ => []
  | m + 1, k => (if kd F k = 1 then mrow oc k (rw1 F R k) 0 else []) ++ mall F R oc m (k + 1)
def MS (ms : List Nat) (I : Nat → Int32) (A : Nat → Nat → Int32) : Prop := I 16 = nI ms.length ∧ ∀ (i x : Nat), ms[i]? = some x → A 37 i = nI x
section RF
variable {ht : Nat} {F : List aItem} {R : Nat} {oc : Nat → Int64} {it : Nat → Option Nat} {dyn : fsH}
/-- what listing the messages leaves alone -/
def fG (I : Nat → Int32) (A : Nat → Nat → Int32) (J : Nat → Nat → Int64) (I' : Nat → Int32) (A' : Nat → Nat → Int32) (J' : Nat → Nat → Int64) : Prop := (∀ q : Nat, q ≠ 16 → I' q = I q) ∧ (∀ m : Nat, m ≠ 36 → m ≠ 37 → A' m = A m) ∧ ∀ m : Nat, m ≠ 35 → J' m = J m
theorem RS.fg {I I' : Nat → Int32} {A A' : Nat → Nat → Int32} {J J' : Nat → Nat → Int64} (h : RS F R oc I A J) (hf : fG I A J I' A' J') : RS F R oc I' A' J' := ⟨h.1.cg (fun n a b => hf.2.1 n (by omega) (by omega)) (hf.2.2 25 (by decide)) (hf.1 13 (by decide)) (hf.1 11 (by decide)), h.2.1, h.2.2.cg (hf.2.1 31 (by decide) (by decide)) (hf.2.2 30 (by decide))⟩
theorem fG.tr {I I1 I2 : Nat → Int32} {A A1 A2 : Nat → Nat → Int32} {J J1 J2 : Nat → Nat → Int64} (h : fG I A J I1 A1 J1) (h' : fG I1 A1 J1 I2 A2 J2) : fG I A J I2 A2 J2 := ⟨fun q a => (h'.1 q a).trans (h.1 q a), fun m a b => (h'.2.1 m a b).trans (h.2.1 m a b), fun m a => (h'.2.2 m a).trans (h.2.2 m a)⟩
theorem ms_21 {k : Nat} (hk : k < F.length) (hkd : kd F k = 1) : ∀ (m f r : Nat) (ms : List Nat) (I : Nat → Int32) (A : Nat → Nat → Int32) (J : Nat → Nat → Int64), r + m = rw1 F R k → m < f → RS F R oc I A J → MS ms I A → ms.length ≤ 4 * k + r → S_Lb_X8_refresh_21 f ht I A J it dyn (nI k) (nI r) ∧ MS (ms ++ mrow oc k m r) (Lb_X8_refresh_21_I f ht I A J it dyn (nI k) (nI r)) (Lb_X8_refresh_21_A f ht I A J it dyn (nI k) (nI r)) ∧ fG I A J (Lb_X8_refresh_21_I f ht I A J it dyn (nI k) (nI r)) (Lb_X8_refresh_21_A f ht I A J it dyn (nI k) (nI r)) (Lb_X8_refresh_21_J f ht I A J it dyn (nI k) (nI r)) ∧ (ms ++ mrow oc k m r).length ≤ 4 * k + rw1 F R k := by
  intro m
  induction m with
  | zero =>
    intro f r ms I A J hr hf h hM hlen
    have hl := h.1.1.1
    obtain ⟨f, rfl⟩ : ∃ n', f = n' + 1 := ⟨f - 1, by omega⟩
    obtain ⟨r1, r2, r3⟩ := rowsOf_M (ht := ht) (it := it) (dyn := dyn) h.1 hk
    have zl : nI (rw1 F R k) ≤ nI r := by rw [nI_leI (by omega) (by omega)]; omega
    simp only [S_Lb_X8_refresh_21, Lb_X8_refresh_21_I, Lb_X8_refresh_21_A, Lb_X8_refresh_21_J, r1, if_pos zl, mrow, List.append_nil]
    exact ⟨⟨r2, fun h => absurd zl h⟩, hM, ⟨fun _ _ => rfl, fun _ _ _ => rfl, fun _ _ => rfl⟩, by omega⟩
  | succ m ih =>
    intro f r ms I A J hr hf h hM hlen
    have hl := h.1.1.1
    obtain ⟨f, rfl⟩ : ∃ n', f = n' + 1 := ⟨f - 1, by omega⟩
    obtain ⟨r1, r2, r3⟩ := rowsOf_M (ht := ht) (it := it) (dyn := dyn) h.1 hk
    have zl : ¬ nI (rw1 F R k) ≤ nI r := by rw [nI_leI (by omega) (by omega)]; omega
    obtain ⟨x, hx⟩ := F_some hk
    obtain ⟨c1, _⟩ := acc hx
    have M := h.1.2.1 _ x hx
    have z1 : A 16 k = 1 := by rw [M.1, ← c1, hkd]; rfl
    have hin : vp_in (nI k) 17 := nI_in (by omega) (by omega)
    obtain ⟨g1, g2, g3, g4, g5⟩ := fails_M (ht := ht) (it := it) (dyn := dyn) h.1 h.2.1 h.2.2 hk (show r < rw1 F R k by omega) hkd
    have e8 : (8 : Int32) * nI k + nI r = nI (8 * k + r) := by rw [iL 8, nI_mul, nI_add]
    simp only [S_Lb_X8_refresh_21, Lb_X8_refresh_21_I, Lb_X8_refresh_21_A, Lb_X8_refresh_21_J, r1, if_neg zl, nI_clamp (show k < 2 ^ 31 by omega), if_pos z1, e8, nI_1, mrow]
    generalize L_X8_fails_A ht I A J it dyn (nI k) (nI r) = A0 at *
    generalize L_X8_fails_J ht I A J it dyn (nI k) (nI r) = J0 at *
    have i16 : vp_in (I 16) 64 := by rw [hM.1]; exact nI_in (by omega) (by omega)
    by_cases hf2 : flo (oc (4 * k + r))
    · have hr1 := g2 hf2
      have hn0 : ¬ L_X8_fails_r ht I A J it dyn (nI k) (nI r) = 0 := by rw [hr1]; decide
      simp only [if_neg hn0, if_pos hf2]
      have hfg : fG I A J (upd I 16 (I 16 + 1)) (va_up A0 37 (upd (A0 37) (I 16).toNatClampNeg (nI (8 * k + r)))) J0 := ⟨fun q a => upd_n _ _ a, fun m a b => by simp [va_up, b]; exact g4 m a, g5⟩
      have hM2 : MS (ms ++ [8 * k + r]) (upd I 16 (I 16 + 1)) (va_up A0 37 (upd (A0 37) (I 16).toNatClampNeg (nI (8 * k + r)))) := by
        refine ⟨by rw [upd_s, hM.1, nI_1]; simp, fun i y hy => ?_⟩
        rw [hM.1, nI_clamp (by omega)]
        by_cases e : i = ms.length
        · subst e
          rw [List.getElem?_append_right (Nat.le_refl _)] at hy
          simp at hy
          subst hy
          simp [va_up, upd]
        · have hi : i < ms.length := by
            have := (List.getElem?_eq_some_iff.mp hy).1
            simp at this; omega
          rw [List.getElem?_append_left hi] at hy
          simp [va_up, upd, e]
          rw [g4 37 (by decide)]
          exact hM.2 i y hy
      obtain ⟨i1, i2, i3, i4⟩ := ih f (r + 1) (ms ++ [8 * k + r]) _ _ _ (by omega) (by omega) (h.fg hfg) hM2 (by simp; omega)
      rw [List.append_assoc] at i2 i4
      exact ⟨⟨r2, fun _ => ⟨hin, fun _ => ⟨g1, fun _ => i16, i1⟩⟩⟩, i2, hfg.tr i3, i4⟩
    · have hr1 := g3 hf2
      simp only [if_pos hr1, if_neg hf2, List.nil_append]
      have hfg : fG I A J I A0 J0 := ⟨fun _ _ => rfl, fun m a _ => g4 m a, g5⟩
      obtain ⟨i1, i2, i3, i4⟩ := ih f (r + 1) ms _ _ _ (by omega) (by omega) (h.fg hfg) ⟨hM.1, fun i y hy => by rw [g4 37 (by decide)]; exact hM.2 i y hy⟩ (by omega)
      exact ⟨⟨r2, fun _ => ⟨hin, fun _ => ⟨g1, fun h => absurd hr1 h, i1⟩⟩⟩, i2, hfg.tr i3, i4⟩
theorem ms_11 : ∀ (m f k : Nat) (ms : List Nat) (I : Nat → Int32) (A : Nat → Nat → Int32) (J : Nat → Nat → Int64), k + m = F.length → m < f → RS F R oc I A J → MS ms I A → ms.length ≤ 4 * k → S_Lb_X8_refresh_11 f ht I A J it dyn (nI k) ∧ MS (ms ++ mall F R oc m k) (Lb_X8_refresh_11_I f ht I A J it dyn (nI k)) (Lb_X8_refresh_11_A f ht I A J it dyn (nI k)) ∧ fG I A J (Lb_X8_refresh_11_I f ht I A J it dyn (nI k)) (Lb_X8_refresh_11_A f ht I A J it dyn (nI k)) (Lb_X8_refresh_11_J f ht I A J it dyn (nI k)) ∧ (ms ++ mall F R oc m k).length ≤ 64 := by
  intro m
  induction m with
  | zero =>
    intro f k ms I A J hk hf h hM hlen
    have hl := h.1.1.1
    obtain ⟨f, rfl⟩ : ∃ n', f = n' + 1 := ⟨f - 1, by omega⟩
    have zl : nI F.length ≤ nI k := by rw [nI_leI (by omega) (by omega)]; omega
    simp only [S_Lb_X8_refresh_11, Lb_X8_refresh_11_I, Lb_X8_refresh_11_A, Lb_X8_refresh_11_J, h.1.2.2.1, if_pos zl, mall, List.append_nil]
    exact ⟨fun h => absurd zl h, hM, ⟨fun _ _ => rfl, fun _ _ _ => rfl, fun _ _ => rfl⟩, by omega⟩
  | succ m ih =>
    intro f k ms I A J hk hf h hM hlen
    have hl := h.1.1.1
    obtain ⟨f, rfl⟩ : ∃ n', f = n' + 1 := ⟨f - 1, by omega⟩
    have hlt : k < F.length := by omega
    have zl : ¬ nI F.length ≤ nI k := by rw [nI_leI (by omega) (by omega)]; omega
    obtain ⟨r1, r2, r3⟩ := rowsOf_M (ht := ht) (it := it) (dyn := dyn) h.1 hlt
    have key : S_Lb_X8_refresh_21 70 ht I A J it dyn (nI k) 0 ∧ MS (ms ++ (if kd F k = 1 then mrow oc k (rw1 F R k) 0 else [])) (Lb_X8_refresh_21_I 70 ht I A J it dyn (nI k) 0) (Lb_X8_refresh_21_A 70 ht I A J it dyn (nI k) 0) ∧ fG I A J (Lb_X8_refresh_21_I 70 ht I A J it dyn (nI k) 0) (Lb_X8_refresh_21_A 70 ht I A J it dyn (nI k) 0) (Lb_X8_refresh_21_J 70 ht I A J it dyn (nI k) 0) ∧ (ms ++ (if kd F k = 1 then mrow oc k (rw1 F R k) 0 else [])).length ≤ 4 * (k + 1) := by
      by_cases hkd : kd F k = 1
      · rw [if_pos hkd]
        obtain ⟨a, b, c, d⟩ := ms_21 (ht := ht) (it := it) (dyn := dyn) hlt hkd (rw1 F R k) 70 0 ms I A J (by omega) (by omega) h hM (by omega)
        exact ⟨a, b, c, by omega⟩
      · rw [if_neg hkd, List.append_nil]
        obtain ⟨x, hx⟩ := F_some hlt
        obtain ⟨c1, _⟩ := acc hx
        have w := h.1.1.2 _ x hx
        have M := h.1.2.1 _ x hx
        have z1 : ¬ A 16 k = 1 := by
          rw [M.1, iL 1, nI_eq (by have := w.1; omega) (by omega), ← c1]; exact hkd
        have hin : vp_in (nI k) 17 := nI_in (by omega) (by omega)
        have e : ∀ n : Nat, S_Lb_X8_refresh_21 (n + 1) ht I A J it dyn (nI k) 0 ∧ Lb_X8_refresh_21_I (n + 1) ht I A J it dyn (nI k) 0 = I ∧ Lb_X8_refresh_21_A (n + 1) ht I A J it dyn (nI k) 0 = A ∧ Lb_X8_refresh_21_J (n + 1) ht I A J it dyn (nI k) 0 = J := by
          intro n
          simp only [S_Lb_X8_refresh_21, Lb_X8_refresh_21_I, Lb_X8_refresh_21_A, Lb_X8_refresh_21_J, nI_clamp (show k < 2 ^ 31 by omega), if_neg z1]
          refine ⟨⟨r2, fun _ => ⟨hin, fun h => absurd h z1⟩⟩, ?_, ?_, ?_⟩ <;> split <;> rfl
        obtain ⟨e1, e2, e3, e4⟩ := e 69
        rw [e2, e3, e4]
        exact ⟨e1, hM, ⟨fun _ _ => rfl, fun _ _ _ => rfl, fun _ _ => rfl⟩, by omega⟩
    obtain ⟨k1, k2, k3, k4⟩ := key
    obtain ⟨i1, i2, i3, i4⟩ := ih f (k + 1) _ _ _ _ (by omega) (by omega) (h.fg k3) k2 k4
    rw [List.append_assoc] at i2 i4
    rw [S_Lb_X8_refresh_11, Lb_X8_refresh_11_I, Lb_X8_refresh_11_A, Lb_X8_refresh_11_J, h.1.2.2.1, if_neg zl, if_neg zl, if_neg zl, nI_1, mall]
    exact ⟨fun _ => ⟨k1, i1⟩, i2, k3.tr i3, i4⟩
theorem fill38 {I : Nat → Int32} {A : Nat → Nat → Int32} {J : Nat → Nat → Int64} : S_Lb_X8_refresh_103 70 ht I A J it dyn 0 ∧ (∀ v : Nat, v < 68 → (Lb_X8_refresh_103_A 70 ht I A J it dyn 0) 38 v = -1) ∧ ∀ n : Nat, n ≠ 38 → (Lb_X8_refresh_103_A 70 ht I A J it dyn 0) n = A n := by
  refine lp (F := fun n A' v => Lb_X8_refresh_103_A n ht I A' J it dyn v) (SF := fun n A' v => S_Lb_X8_refresh_103 n ht I A' J it dyn v) 68 (fun b A' => (∀ v : Nat, v < b → A' 38 v = -1) ∧ ∀ n : Nat, n ≠ 38 → A' n = A n) (fun A' i => va_up A' 38 (upd (A' 38) i (-1))) ?_ ?_ 68 70 0 A rfl (by decide) ⟨fun v hv => by omega, fun _ _ => rfl⟩
  · intro n A' i hi hP
    left
    have zl : ¬ (68 : Int32) ≤ nI i := by rw [iL 68, nI_leI (by omega) (by omega)]; omega
    have hin : vp_in (nI i) 68 := nI_in (by omega) (by omega)
    simp only [Lb_X8_refresh_103_A, S_Lb_X8_refresh_103, if_neg zl, nI_clamp (show i < 2 ^ 31 by omega), nI_1]
    refine ⟨trivial, ⟨fun v hv => ?_, fun n hn => by simp [va_up, hn]; exact hP.2 n hn⟩, fun h _ => ⟨hin, h⟩⟩
    by_cases e : v = i
    · subst e; simp [va_up, upd]
    · simp [va_up, upd, e]; exact hP.1 v (by omega)
  · intro n A' hP
    have zl : (68 : Int32) ≤ nI 68 := by decide
    simp only [Lb_X8_refresh_103_A, S_Lb_X8_refresh_103, if_pos zl]
    exact ⟨trivial, fun h => absurd zl h⟩
theorem fill39 {I : Nat → Int32} {A : Nat → Nat → Int32} {J : Nat → Nat → Int64} : S_Lb_X8_refresh_124 2600 ht I A J it dyn 0 ∧ (∀ v : Nat, v < 2560 → (Lb_X8_refresh_124_A 2600 ht I A J it dyn 0) 39 v = -1) ∧ ∀ n : Nat, n ≠ 39 → (Lb_X8_refresh_124_A 2600 ht I A J it dyn 0) n = A n := by
  refine lp (F := fun n A' v => Lb_X8_refresh_124_A n ht I A' J it dyn v) (SF := fun n A' v => S_Lb_X8_refresh_124 n ht I A' J it dyn v) 2560 (fun b A' => (∀ v : Nat, v < b → A' 39 v = -1) ∧ ∀ n : Nat, n ≠ 39 → A' n = A n) (fun A' i => va_up A' 39 (upd (A' 39) i (-1))) ?_ ?_ 2560 2600 0 A rfl (by decide) ⟨fun v hv => by omega, fun _ _ => rfl⟩
  · intro n A' i hi hP
    left
    have zl : ¬ (2560 : Int32) ≤ nI i := by rw [iL 2560, nI_leI (by omega) (by omega)]; omega
    have hin : vp_in (nI i) 2560 := nI_in (by omega) (by omega)
    simp only [Lb_X8_refresh_124_A, S_Lb_X8_refresh_124, if_neg zl, nI_clamp (show i < 2 ^ 31 by omega), nI_1]
    refine ⟨trivial, ⟨fun v hv => ?_, fun n hn => by simp [va_up, hn]; exact hP.2 n hn⟩, fun h _ => ⟨hin, h⟩⟩
    by_cases e : v = i
    · subst e; simp [va_up, upd]
    · simp [va_up, upd, e]; exact hP.1 v (by omega)
  · intro n A' hP
    have zl : (2560 : Int32) ≤ nI 2560 := by decide
    simp only [Lb_X8_refresh_124_A, S_Lb_X8_refresh_124, if_pos zl]
    exact ⟨trivial, fun h => absurd zl h⟩
theorem refresh_M (h4 : 4 ≤ ht) (h20 : ht ≤ 20) {I : Nat → Int32} {A : Nat → Nat → Int32} {J : Nat → Nat → Int64} (h : MF F R I A J) (hok : nmOK F) {os : List Nat} (hT : ordT (HC F R) (wkC F R) os) (hA : ∀ u : Nat, wkC F R u → u ∈ os) (hfit : ∀ u : Nat, wkC F R u → fit F R oc u) (htold : ∀ v : Nat, v < 64 → isf F R v → pl F (v / 4) = [] → oc v = J 30 v ∧ -1000000000000000 ≤ (J 30 v).toInt ∧ (J 30 v).toInt ≤ 1000000000000000) :
    S_X8_refresh ht I A J it dyn ∧ (∀ q : Nat, q ≠ 16 → q ≠ 17 → q ≠ 18 → q ≠ 19 → (L_X8_refresh_I ht I A J it dyn) q = I q) ∧ (∀ m : Nat, m ≠ 31 → m ≠ 34 → m ≠ 36 → m ≠ 37 → m ≠ 38 → m ≠ 39 → (L_X8_refresh_A ht I A J it dyn) m = A m) ∧ (∀ m : Nat, m ≠ 30 → m ≠ 32 → m ≠ 33 → m ≠ 35 → (L_X8_refresh_J ht I A J it dyn) m = J m) ∧
    chk F R oc (L_X8_refresh_A ht I A J it dyn) (L_X8_refresh_J ht I A J it dyn) ∧ LM ht (lyF ht F R oc) (L_X8_refresh_I ht I A J it dyn) (L_X8_refresh_A ht I A J it dyn) ∧ MS (mall F R oc F.length 0) (L_X8_refresh_I ht I A J it dyn) (L_X8_refresh_A ht I A J it dyn) ∧ (mall F R oc F.length 0).length ≤ 64 ∧
    (∀ v : Nat, v < 64 → isf F R v → OC (oc v) ((L_X8_refresh_J ht I A J it dyn) 30 v) ((L_X8_refresh_A ht I A J it dyn) 31 v)) ∧ (∀ v : Nat, v < 64 → ¬ isf F R v → (L_X8_refresh_A ht I A J it dyn) 31 v = 0 ∧ (L_X8_refresh_J ht I A J it dyn) 30 v = 0) ∧ ∀ v : Nat, v < 64 → ∀ u : Nat, bt ((L_X8_refresh_J ht I A J it dyn) 32 v) u ↔ HM F R v u := by
  have hl := h.1.1
  have hR := h.2.2.2.2
  obtain ⟨w1, w2, w3, w4, w5, w6, w7⟩ := workAll_M (ht := ht) (it := it) (dyn := dyn) h hok (fun v hv a b => (htold v hv a b).2)
  unfold S_X8_refresh L_X8_refresh_I L_X8_refresh_A L_X8_refresh_J
  generalize L_X8_workAll_A ht I A J it dyn = A1 at *
  generalize L_X8_workAll_J ht I A J it dyn = J1 at *
  have hM1 : MF F R (upd I 16 0) A1 J1 := h.cg (fun n a b => w2 n (by omega) (by omega) (by omega)) (w3 25 (by decide) (by decide) (by decide) (by decide)) (upd_n _ _ (by decide)) (upd_n _ _ (by decide))
  have hag := agree h.1 hR hok hT hA hfit w6 (fun v hv hf hp => by
    have hn : ¬ wkM F R v := fun hw => hw.2 hp
    obtain ⟨a, b, _⟩ := w5 v hv hn
    unfold ocM cod
    rw [a, if_pos rfl, b hf]
    exact (htold v hv hf hp).1)
  have hchk : chk F R oc A1 J1 := ⟨w7, fun v hv hk => agreeK h.1 hR hok hfit hag hv (by omega)⟩
  have hRS : RS F R oc (upd I 16 0) A1 J1 := ⟨hM1, hok, hchk⟩
  obtain ⟨m1, m2, m3, m4⟩ := ms_11 (ht := ht) (it := it) (dyn := dyn) F.length 70 0 [] (upd I 16 0) A1 J1 (by omega) (by omega) hRS ⟨upd_s _ _ _, fun i x hx => by simp at hx⟩ (by simp)
  rw [List.nil_append] at m2 m4
  have m1 : S_Lb_X8_refresh_11 70 ht (upd I 16 0) A1 J1 it dyn 0 := m1
  have m2 : MS (mall F R oc F.length 0) (Lb_X8_refresh_11_I 70 ht (upd I 16 0) A1 J1 it dyn 0) (Lb_X8_refresh_11_A 70 ht (upd I 16 0) A1 J1 it dyn 0) := m2
  have m3 : fG (upd I 16 0) A1 J1 (Lb_X8_refresh_11_I 70 ht (upd I 16 0) A1 J1 it dyn 0) (Lb_X8_refresh_11_A 70 ht (upd I 16 0) A1 J1 it dyn 0) (Lb_X8_refresh_11_J 70 ht (upd I 16 0) A1 J1 it dyn 0) := m3
  generalize Lb_X8_refresh_11_I 70 ht (upd I 16 0) A1 J1 it dyn 0 = I2 at *
  generalize Lb_X8_refresh_11_A 70 ht (upd I 16 0) A1 J1 it dyn 0 = A2 at *
  generalize Lb_X8_refresh_11_J 70 ht (upd I 16 0) A1 J1 it dyn 0 = J2 at *
  have hRS2 := hRS.fg m3
  obtain ⟨f1, f2, f3⟩ := fill38 (ht := ht) (it := it) (dyn := dyn) (I := upd (upd (upd I2 17 0) 18 0) 19 0) (A := A2) (J := J2)
  obtain ⟨g1, g2, g3⟩ := fill39 (ht := ht) (it := it) (dyn := dyn) (I := upd (upd (upd I2 17 0) 18 0) 19 0) (A := Lb_X8_refresh_103_A 70 ht (upd (upd (upd I2 17 0) 18 0) 19 0) A2 J2 it dyn 0) (J := J2)
  generalize Lb_X8_refresh_103_A 70 ht (upd (upd (upd I2 17 0) 18 0) 19 0) A2 J2 it dyn 0 = A3 at *
  generalize Lb_X8_refresh_124_A 2600 ht (upd (upd (upd I2 17 0) 18 0) 19 0) A3 J2 it dyn 0 = A4 at *
  have hfm : fM I2 A2 J2 (upd (upd (upd I2 17 0) 18 0) 19 0) A4 J2 := ⟨fun q a b c => by rw [upd_n _ _ c, upd_n _ _ b, upd_n _ _ a], fun m a b c => by rw [g3 m c, f3 m b], fun _ _ => rfl⟩
  have hRS3 := hRS2.fm hfm
  have hL : LM ht ly0 (upd (upd (upd I2 17 0) 18 0) 19 0) A4 := by
    refine ⟨by rw [upd_n _ _ (by decide), upd_n _ _ (by decide), upd_s]; rfl, by decide, by rw [upd_n _ _ (by decide), upd_s]; rfl, by rw [upd_s]; rfl, fun v hv => by rw [g3 38 (by decide)]; exact f2 v (by omega), fun q hq j hj => ?_⟩
    rw [g2 _ (by omega)]
    show (-1 : Int32) = if j < 0 then _ else -1
    rw [if_neg (by omega)]
  obtain ⟨k1, k2, k3⟩ := mjump (it := it) (dyn := dyn) h4 h20 20 70 0 ly0 (upd (upd (upd I2 17 0) 18 0) 19 0) A4 J2 (by omega) (by omega) (by omega) hRS3 (inv_0 ht) ⟨fun v _ => rfl, fun j hj => by omega⟩ hL
  have k1 : S_Lb_X8_refresh_146 70 ht (upd (upd (upd I2 17 0) 18 0) 19 0) A4 J2 it dyn 0 := k1
  have k2 : LM ht (lyF ht F R oc) (Lb_X8_refresh_146_I 70 ht (upd (upd (upd I2 17 0) 18 0) 19 0) A4 J2 it dyn 0) (Lb_X8_refresh_146_A 70 ht (upd (upd (upd I2 17 0) 18 0) 19 0) A4 J2 it dyn 0) := k2
  have k3 : fM (upd (upd (upd I2 17 0) 18 0) 19 0) A4 J2 (Lb_X8_refresh_146_I 70 ht (upd (upd (upd I2 17 0) 18 0) 19 0) A4 J2 it dyn 0) (Lb_X8_refresh_146_A 70 ht (upd (upd (upd I2 17 0) 18 0) 19 0) A4 J2 it dyn 0) (Lb_X8_refresh_146_J 70 ht (upd (upd (upd I2 17 0) 18 0) 19 0) A4 J2 it dyn 0) := k3
  generalize Lb_X8_refresh_146_I 70 ht (upd (upd (upd I2 17 0) 18 0) 19 0) A4 J2 it dyn 0 = I5 at *
  generalize Lb_X8_refresh_146_A 70 ht (upd (upd (upd I2 17 0) 18 0) 19 0) A4 J2 it dyn 0 = A5 at *
  generalize Lb_X8_refresh_146_J 70 ht (upd (upd (upd I2 17 0) 18 0) 19 0) A4 J2 it dyn 0 = J5 at *
  have hf5 := hfm.tr k3
  have hRS5 := hRS2.fm hf5
  have a31 : A5 31 = A1 31 := (hf5.2.1 31 (by decide) (by decide) (by decide)).trans (m3.2.1 31 (by decide) (by decide))
  have j30 : J5 30 = J1 30 := (hf5.2.2 30 (by decide)).trans (m3.2.2 30 (by decide))
  refine ⟨⟨w1, m1, f1, g1, k1⟩, fun q a b c d => by rw [hf5.1 q b c d, m3.1 q a, upd_n _ _ a], fun m a b c d e f => by rw [hf5.2.1 m c e f, m3.2.1 m c d, w2 m a b c], fun m a b c d => by rw [hf5.2.2 m d, m3.2.2 m d, w3 m a b c d], hRS5.2.2, k2, ⟨by rw [hf5.1 16 (by decide) (by decide) (by decide)]; exact m2.1, fun i x hx => by rw [hf5.2.1 37 (by decide) (by decide) (by decide)]; exact m2.2 i x hx⟩, m4, fun v hv hf => ?_, fun v hv hf => ?_, fun v hv u => by rw [hf5.2.2 32 (by decide), m3.2.2 32 (by decide)]; exact w4 v hv u⟩
  · rw [a31, j30, hag v hv hf]
    exact w7 v hv
  · rw [a31, j30]
    obtain ⟨a, _, c⟩ := w5 v hv (fun hw => hf hw.1)
    exact ⟨a, c hf⟩
end RF
