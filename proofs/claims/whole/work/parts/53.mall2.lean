/-! WORKING OUT: the reference, the rounds -/
def ocM (A : Nat → Nat → Int32) (J : Nat → Nat → Int64) (u : Nat) : Int64 := cod (J 30 u) (A 31 u)
def kn (F : List aItem) (R : Nat) (T : Nat → Int64) (A : Nat → Nat → Int32) (J : Nat → Nat → Int64) : Prop :=
  (∀ v : Nat, v < 64 → A 34 v = 0 ∨ A 34 v = 1) ∧ (∀ v : Nat, v < 64 → A 34 v = 0 → wkM F R v ∧ ¬ HM F R v v) ∧ (∀ v : Nat, v < 64 → ¬ wkM F R v → A 34 v = 1 ∧ A 31 v = 0 ∧ J 30 v = T v) ∧ (∀ v : Nat, v < 64 → HM F R v v → A 34 v = 1 ∧ A 31 v = 3 ∧ J 30 v = 0) ∧
  (∀ v : Nat, v < 64 → wkM F R v → ¬ HM F R v v → A 34 v = 1 → ocM A J v = val F R (ocM A J) (v % 4) (pl F (v / 4)) ∧ ∀ u : Nat, DM F R v u → A 34 u = 1) ∧ OCA (ocM A J) A J
def frW (A1 : Nat → Nat → Int32) (J1 : Nat → Nat → Int64) (A : Nat → Nat → Int32) (J : Nat → Nat → Int64) : Prop := (∀ n : Nat, n ≠ 31 → n ≠ 34 → n ≠ 36 → A n = A1 n) ∧ ∀ n : Nat, n ≠ 30 → n ≠ 35 → J n = J1 n
section WB
variable {ht : Nat} {F : List aItem} {R : Nat} {I : Nat → Int32} {it : Nat → Option Nat} {dyn : fsH} {T : Nat → Int64} {A1 : Nat → Nat → Int32} {J1 : Nat → Nat → Int64}
theorem DM_lt (hw : wfF F) (hR : R ≤ 4) (hok : nmOK F) {v u : Nat} (h : DM F R v u) : u < 64 := by
  obtain ⟨⟨h1, ⟨⟨k1, k2, k3⟩, _⟩⟩, h3⟩ := h
  obtain ⟨x, hx⟩ := F_some k1
  obtain ⟨c1, c2, c3, _⟩ := acc hx
  rw [c3] at h3
  refine (nmL_cell hw hR (hok _ x hx) (by omega) (fun e => ?_) h3).1
  unfold rw1 at k3
  rw [if_pos k1, c2, e, if_neg (by decide)] at k3
  exact k3
def rnP (F : List aItem) (R : Nat) (T : Nat → Int64) (A1 : Nat → Nat → Int32) (J1 : Nat → Nat → Int64) (As : Nat → Nat → Int32) (i : Nat) (A : Nat → Nat → Int32) (J : Nat → Nat → Int64) : Prop :=
  kn F R T A J ∧ frW A1 J1 A J ∧ (∀ v : Nat, v < 64 → As 34 v = 1 → A 34 v = 1) ∧ ∀ v : Nat, v < i → As 34 v = 0 → (∀ u : Nat, DM F R v u → As 34 u = 1) → A 34 v = 1
theorem wa_200 (h1 : MF F R I A1 J1) (hok : nmOK F) (hD : ∀ v : Nat, v < 64 → ∀ u : Nat, bt (J1 33 v) u ↔ DM F R v u) {v1 : Int32} {As : Nat → Nat → Int32} : ∀ (m n i : Nat) (A : Nat → Nat → Int32) (J : Nat → Nat → Int64), i + m = 64 → m < n → rnP F R T A1 J1 As i A J → S_Lb_X8_workAll_200 n ht I A J it dyn v1 (nI i) ∧ rnP F R T A1 J1 As 64 (Lb_X8_workAll_200_A n ht I A J it dyn v1 (nI i)) (Lb_X8_workAll_200_J n ht I A J it dyn v1 (nI i)) := by
  have hl := h1.1.1
  have hR := h1.2.2.2.2
  intro m
  induction m with
  | zero =>
    intro n i A J hm hn hP
    obtain ⟨n, rfl⟩ : ∃ n', n = n' + 1 := ⟨n - 1, by omega⟩
    obtain rfl : i = 64 := by omega
    rw [S_Lb_X8_workAll_200, Lb_X8_workAll_200_A, Lb_X8_workAll_200_J]
    simp only [if_pos n64e]
    exact ⟨fun h => absurd n64e h, hP⟩
  | succ m ih =>
    intro n i A J hm hn hP
    obtain ⟨n, rfl⟩ : ∃ n', n = n' + 1 := ⟨n - 1, by omega⟩
    have hi : i < 64 := by omega
    have hiv := i64 hi
    obtain ⟨⟨k1, k2, k3, k4, k5, k6⟩, ⟨f1, f2⟩, p3, p4⟩ := hP
    have hM : MF F R I A J := h1.cg (fun n a b => f1 n (by omega) (by omega) (by omega)) (f2 25 (by decide) (by decide)) rfl rfl
    have hDi : ∀ u : Nat, bt (J 33 i) u ↔ DM F R i u := fun u => by rw [f2 33 (by decide) (by decide)]; exact hD i hi u
    obtain ⟨a1, a2⟩ := allK_M (ht := ht) (I := I) (A := A) (J := J) (it := it) (dyn := dyn) (J 33 i)
    rw [S_Lb_X8_workAll_200, Lb_X8_workAll_200_A, Lb_X8_workAll_200_J]
    simp only [if_neg (n64 hi), c64 hi, rem4 i hi]
    simp only [div4 i hi, nI_1]
    by_cases hz : A 34 i = 0
    · simp only [if_pos hz]
      by_cases ha : L_X8_allKnown_r ht I A J it dyn (J 33 i) = 0
      · simp only [if_pos ha]
        obtain ⟨t1, t2⟩ := ih n (i + 1) A J (by omega) (by omega) ⟨⟨k1, k2, k3, k4, k5, k6⟩, ⟨f1, f2⟩, p3, fun v hv hs hd => by
          by_cases e : v = i
          · exfalso
            subst e
            refine a2.mp ha (fun u hu hb => ?_)
            rw [p3 u hu (hd u ((hDi u).mp hb))]
            decide
          · exact p4 v (by omega) hs hd⟩
        exact ⟨fun _ => ⟨hiv, fun _ => ⟨hiv, a1, fun h => absurd ha h⟩, t1⟩, t2⟩
      · simp only [if_neg ha]
        have hall : ∀ u : Nat, DM F R i u → A 34 u = 1 := fun u hu => by
          have hu64 := DM_lt h1.1 hR hok hu
          refine (k1 u hu64).resolve_left fun h0 => ?_
          exact ha (a2.mpr fun hh => hh u hu64 ((hDi u).mpr hu) h0)
        obtain ⟨hw, hnc⟩ := k2 i hi hz
        obtain ⟨x, hx⟩ := F_some hw.1.1
        obtain ⟨c1, c2, c3, _⟩ := acc hx
        have hne : x.2.2.2.2 ≠ [] := by rw [← c3]; exact hw.2
        obtain ⟨w1, w2, w3, w4, w5, w6⟩ := work_M (ht := ht) (it := it) (dyn := dyn) (r := i % 4) hx (hok _ x hx) (by omega) hne hM k6
        have hin32 : vp_in (nI (x.2.2.2.2.length - 1)) 32 := nI_in (by omega) (by omega)
        have e1 : vp_nar .boolean 1 = 1 := by decide
        rw [w2]
        simp only [nI_clamp (show x.2.2.2.2.length - 1 < 2 ^ 31 by omega), e1]
        have w6 : OC (val F R (ocM A J) (i % 4) (pl F (i / 4))) ((L_X8_work_J ht I A J it dyn (nI (i / 4)) (nI (i % 4))) 35 (x.2.2.2.2.length - 1)) ((L_X8_work_A ht I A J it dyn (nI (i / 4)) (nI (i % 4))) 36 (x.2.2.2.2.length - 1)) := by rw [c3]; exact w6
        generalize L_X8_work_A ht I A J it dyn (nI (i / 4)) (nI (i % 4)) = WA at *
        generalize L_X8_work_J ht I A J it dyn (nI (i / 4)) (nI (i % 4)) = WJ at *
        generalize x.2.2.2.2.length - 1 = L at *
        have g1 : ∀ (n : Nat), n ≠ 31 → n ≠ 34 → n ≠ 36 → (va_up (va_up WA 31 (upd (WA 31) i (WA 36 L))) 34 (upd ((va_up WA 31 (upd (WA 31) i (WA 36 L))) 34) i 1)) n = A n := fun n a b c => by simp [va_up, a, b]; exact w4 n c
        have g2 : ∀ u : Nat, u ≠ i → (va_up (va_up WA 31 (upd (WA 31) i (WA 36 L))) 34 (upd ((va_up WA 31 (upd (WA 31) i (WA 36 L))) 34) i 1)) 31 u = A 31 u := fun u hu => by simp [va_up, upd, hu, w4 31 (by decide)]
        have g3 : (va_up (va_up WA 31 (upd (WA 31) i (WA 36 L))) 34 (upd ((va_up WA 31 (upd (WA 31) i (WA 36 L))) 34) i 1)) 31 i = WA 36 L := by simp [va_up, upd]
        have g4 : ∀ u : Nat, u ≠ i → (va_up (va_up WA 31 (upd (WA 31) i (WA 36 L))) 34 (upd ((va_up WA 31 (upd (WA 31) i (WA 36 L))) 34) i 1)) 34 u = A 34 u := fun u hu => by simp [va_up, upd, hu, w4 34 (by decide)]
        have g5 : (va_up (va_up WA 31 (upd (WA 31) i (WA 36 L))) 34 (upd ((va_up WA 31 (upd (WA 31) i (WA 36 L))) 34) i 1)) 34 i = 1 := by simp [va_up, upd]
        have g6 : ∀ n : Nat, n ≠ 30 → n ≠ 35 → (va_up WJ 30 (vp_updL (WJ 30) i (WJ 35 L))) n = J n := fun n a b => by simp [va_up, a]; exact w5 n b
        have g7 : ∀ u : Nat, u ≠ i → (va_up WJ 30 (vp_updL (WJ 30) i (WJ 35 L))) 30 u = J 30 u := fun u hu => by simp [va_up, vp_updL, hu, w5 30 (by decide)]
        have g8 : (va_up WJ 30 (vp_updL (WJ 30) i (WJ 35 L))) 30 i = WJ 35 L := by simp [va_up, vp_updL]
        generalize va_up (va_up WA 31 (upd (WA 31) i (WA 36 L))) 34 (upd ((va_up WA 31 (upd (WA 31) i (WA 36 L))) 34) i 1) = A2 at *
        generalize va_up WJ 30 (vp_updL (WJ 30) i (WJ 35 L)) = J2 at *
        have o1 : ∀ u : Nat, u ≠ i → ocM A2 J2 u = ocM A J u := fun u hu => by unfold ocM; rw [g2 u hu, g7 u hu]
        have o2 : ocM A2 J2 i = val F R (ocM A J) (i % 4) (pl F (i / 4)) := by
          rw [show ocM A2 J2 i = cod (J2 30 i) (A2 31 i) from rfl, g3, g8]
          exact (OC_cod w6).symm
        have hval : ∀ v : Nat, (∀ u : Nat, DM F R v u → u ≠ i) → (v < 64 ∧ wkM F R v) → val F R (ocM A2 J2) (v % 4) (pl F (v / 4)) = val F R (ocM A J) (v % 4) (pl F (v / 4)) := fun v hv hw2 => val_c (fun u hu => o1 u (hv u ⟨hw2, hu⟩))
        have hP2 : rnP F R T A1 J1 As (i + 1) A2 J2 := by
          refine ⟨⟨fun v hv => ?_, fun v hv h0 => ?_, fun v hv h0 => ?_, fun v hv h0 => ?_, fun v hv h2 h3 h4 => ?_, fun u hu => ?_⟩, ⟨fun n a b c => (g1 n a b c).trans (f1 n a b c), fun n a b => (g6 n a b).trans (f2 n a b)⟩, fun v hv hs => ?_, fun v hv hs hd => ?_⟩
          · by_cases e : v = i
            · subst e; exact Or.inr g5
            · rw [g4 v e]; exact k1 v hv
          · by_cases e : v = i
            · subst e; exact ⟨hw, hnc⟩
            · rw [g4 v e] at h0; exact k2 v hv h0
          · have e : v ≠ i := fun e => h0 (e ▸ hw)
            rw [g4 v e, g2 v e, g7 v e]; exact k3 v hv h0
          · have e : v ≠ i := fun e => hnc (e ▸ h0)
            rw [g4 v e, g2 v e, g7 v e]; exact k4 v hv h0
          · by_cases e : v = i
            · subst e
              refine ⟨?_, fun u hu => ?_⟩
              · rw [o2, hval v (fun u hu e2 => hnc (by rw [e2] at hu; exact Relation.TransGen.single hu)) ⟨hv, hw⟩]
              · have e2 : u ≠ v := fun e2 => hnc (by rw [e2] at hu; exact Relation.TransGen.single hu)
                rw [g4 u e2]; exact hall u hu
            · rw [g4 v e] at h4
              obtain ⟨q1, q2⟩ := k5 v hv h2 h3 h4
              have hne2 : ∀ u : Nat, DM F R v u → u ≠ i := fun u hu e2 => by
                have := q2 u hu
                rw [e2, hz] at this
                exact absurd this (by decide)
              refine ⟨?_, fun u hu => ?_⟩
              · rw [o1 v e, q1, hval v hne2 ⟨hv, h2⟩]
              · rw [g4 u (hne2 u hu)]; exact q2 u hu
          · by_cases e : u = i
            · subst e; rw [o2, g3, g8]; exact w6
            · rw [o1 u e, g2 u e, g7 u e]; exact k6 u hu
          · by_cases e : v = i
            · subst e; exact g5
            · rw [g4 v e]; exact p3 v hv hs
          · by_cases e : v = i
            · subst e; exact g5
            · rw [g4 v e]; exact p4 v (by omega) hs hd
        obtain ⟨t1, t2⟩ := ih n (i + 1) A2 J2 (by omega) (by omega) hP2
        exact ⟨fun _ => ⟨hiv, fun _ => ⟨hiv, a1, fun _ => ⟨w1, hin32, hiv, hin32, hiv, hiv⟩⟩, t1⟩, t2⟩
    · simp only [if_neg hz]
      obtain ⟨t1, t2⟩ := ih n (i + 1) A J (by omega) (by omega) ⟨⟨k1, k2, k3, k4, k5, k6⟩, ⟨f1, f2⟩, p3, fun v hv hs hd => by
        by_cases e : v = i
        · subst e; exact (k1 v hi).resolve_left hz
        · exact p4 v (by omega) hs hd⟩
      exact ⟨fun _ => ⟨hiv, fun h => absurd h hz, t1⟩, t2⟩
theorem wa_192 (h1 : MF F R I A1 J1) (hok : nmOK F) (hD : ∀ v : Nat, v < 64 → ∀ u : Nat, bt (J1 33 v) u ↔ DM F R v u) (hk : kn F R T A1 J1) : S_Lb_X8_workAll_192 70 ht I A1 J1 it dyn 0 ∧ kn F R T (Lb_X8_workAll_192_A 70 ht I A1 J1 it dyn 0) (Lb_X8_workAll_192_J 70 ht I A1 J1 it dyn 0) ∧ frW A1 J1 (Lb_X8_workAll_192_A 70 ht I A1 J1 it dyn 0) (Lb_X8_workAll_192_J 70 ht I A1 J1 it dyn 0) ∧ ∀ v : Nat, v < 64 → (Lb_X8_workAll_192_A 70 ht I A1 J1 it dyn 0) 34 v = 1 := by
  have r := lp (S := (Nat → Nat → Int32) × (Nat → Nat → Int64)) (F := fun n s v => (Lb_X8_workAll_192_A n ht I s.1 s.2 it dyn v, Lb_X8_workAll_192_J n ht I s.1 s.2 it dyn v)) (SF := fun n s v => S_Lb_X8_workAll_192 n ht I s.1 s.2 it dyn v) 64 (fun i s => kn F R T s.1 s.2 ∧ frW A1 J1 s.1 s.2 ∧ cnt (fun v => v < 64 ∧ s.1 34 v = 0) 64 ≤ 64 - i) (fun s i => (Lb_X8_workAll_200_A 70 ht I s.1 s.2 it dyn (nI i) 0, Lb_X8_workAll_200_J 70 ht I s.1 s.2 it dyn (nI i) 0)) ?_ ?_ 64 70 0 (A1, J1) rfl (by decide) ⟨hk, ⟨fun _ _ _ _ => rfl, fun _ _ _ => rfl⟩, cnt_64 _ 64⟩
  · dsimp only at r
    obtain ⟨s, r1, r2, r3⟩ := r
    refine ⟨s, r1, r2, fun v hv => (r1.1 v hv).resolve_left fun h0 => ?_⟩
    have := cnt_lt (p := fun _ => False) (q := fun v => v < 64 ∧ (Lb_X8_workAll_192_A 70 ht I A1 J1 it dyn (nI 0)) 34 v = 0) (fun i h => absurd h id) (a := v) ⟨hv, h0⟩ id 64 hv
    omega
  · rintro n ⟨A, J⟩ i hi ⟨q1, q2, q3⟩
    left
    dsimp only at q1 q2 q3 ⊢
    obtain ⟨t1, t2, t3, t4, t5⟩ := wa_200 (ht := ht) (it := it) (dyn := dyn) h1 hok hD (v1 := nI i) (As := A) 64 70 0 A J rfl (by decide) ⟨q1, q2, fun v _ h => h, fun v hv => by omega⟩
    rw [Lb_X8_workAll_192_A, Lb_X8_workAll_192_J, S_Lb_X8_workAll_192, if_neg (n64 hi), if_neg (n64 hi), nI_1]
    refine ⟨rfl, ⟨t2, t3, ?_⟩, fun h _ => ⟨t1, h⟩⟩
    by_cases hex : ∃ v, v < 64 ∧ A 34 v = 0
    · obtain ⟨v, hv, h0⟩ := hex
      have htr : ∀ a b c : Nat, HM F R a b → HM F R b c → HM F R a c := fun a b c x y => Relation.TransGen.trans x y
      obtain ⟨m, ⟨hm1, hm2⟩, hm3⟩ := min_el (H := HM F R) (W := fun a => a < 64 ∧ A 34 a = 0) htr (fun a ha => (q1.2.1 a ha.1 ha.2).2) (fun a ha => ha.1) _ v ⟨hv, h0⟩ (Nat.le_refl _)
      have hkm := t5 m hm1 hm2 (fun u hu => by
        have hu64 := DM_lt h1.1 h1.2.2.2.2 hok hu
        exact (q1.1 u hu64).resolve_left fun h => hm3 u (Relation.TransGen.single hu) ⟨hu64, h⟩)
      have hmono : ∀ v : Nat, (v < 64 ∧ (Lb_X8_workAll_200_A 70 ht I A J it dyn (nI i) 0) 34 v = 0) → (v < 64 ∧ A 34 v = 0) := fun v hh => ⟨hh.1, (q1.1 v hh.1).resolve_right fun h => by
        have h2 := t4 v hh.1 h
        have h3 : (Lb_X8_workAll_200_A 70 ht I A J it dyn (nI i) 0) 34 v = 1 := h2
        rw [hh.2] at h3
        exact absurd h3 (by decide)⟩
      have hlt := cnt_lt hmono (a := m) ⟨hm1, hm2⟩ (fun hh => by
        have h3 : (Lb_X8_workAll_200_A 70 ht I A J it dyn (nI i) 0) 34 m = 1 := hkm
        rw [hh.2] at h3
        exact absurd h3 (by decide)) 64 hm1
      omega
    · have hno : ∀ v : Nat, ¬ (v < 64 ∧ (Lb_X8_workAll_200_A 70 ht I A J it dyn (nI i) 0) 34 v = 0) := fun v hh => hex ⟨v, hh.1, (q1.1 v hh.1).resolve_right fun h => by
        have h3 : (Lb_X8_workAll_200_A 70 ht I A J it dyn (nI i) 0) 34 v = 1 := t4 v hh.1 h
        rw [hh.2] at h3
        exact absurd h3 (by decide)⟩
      have : cnt (fun v => v < 64 ∧ (Lb_X8_workAll_200_A 70 ht I A J it dyn (nI i) 0) 34 v = 0) 64 = 0 := by
        rw [cnt_c (q := fun _ => False) (fun v => ⟨fun h => hno v h, fun h => absurd h id⟩) 64]
        have : ∀ n : Nat, cnt (fun _ => False) n = 0 := fun n => by
          induction n with
          | zero => rfl
          | succ n ih => unfold cnt; rw [ih, if_neg id]
        exact this 64
      omega
  · rintro n ⟨A, J⟩ hP
    dsimp only
    rw [Lb_X8_workAll_192_A, Lb_X8_workAll_192_J, S_Lb_X8_workAll_192, if_pos n64e, if_pos n64e]
    exact ⟨rfl, fun h => absurd n64e h⟩
/-- all that the reference works out -/
theorem workAll_M {A : Nat → Nat → Int32} {J : Nat → Nat → Int64} (h : MF F R I A J) (hok : nmOK F) (hin : ∀ v : Nat, v < 64 → isf F R v → pl F (v / 4) = [] → -1000000000000000 ≤ (J 30 v).toInt ∧ (J 30 v).toInt ≤ 1000000000000000) : S_X8_workAll ht I A J it dyn ∧ (∀ n : Nat, n ≠ 31 → n ≠ 34 → n ≠ 36 → (L_X8_workAll_A ht I A J it dyn) n = A n) ∧ (∀ n : Nat, n ≠ 30 → n ≠ 32 → n ≠ 33 → n ≠ 35 → (L_X8_workAll_J ht I A J it dyn) n = J n) ∧ (∀ v : Nat, v < 64 → ∀ u : Nat, bt ((L_X8_workAll_J ht I A J it dyn) 32 v) u ↔ HM F R v u) ∧
    (∀ v : Nat, v < 64 → ¬ wkM F R v → (L_X8_workAll_A ht I A J it dyn) 31 v = 0 ∧ (isf F R v → (L_X8_workAll_J ht I A J it dyn) 30 v = J 30 v) ∧ (¬ isf F R v → (L_X8_workAll_J ht I A J it dyn) 30 v = 0)) ∧
    (∀ v : Nat, v < 64 → wkM F R v → (HM F R v v → ocM (L_X8_workAll_A ht I A J it dyn) (L_X8_workAll_J ht I A J it dyn) v = 10000000000000003) ∧ (¬ HM F R v v → ocM (L_X8_workAll_A ht I A J it dyn) (L_X8_workAll_J ht I A J it dyn) v = val F R (ocM (L_X8_workAll_A ht I A J it dyn) (L_X8_workAll_J ht I A J it dyn)) (v % 4) (pl F (v / 4)))) ∧ OCA (ocM (L_X8_workAll_A ht I A J it dyn) (L_X8_workAll_J ht I A J it dyn)) (L_X8_workAll_A ht I A J it dyn) (L_X8_workAll_J ht I A J it dyn) := by
  obtain ⟨s1, a1, _, a3, a4⟩ := wa_2 (ht := ht) (it := it) (dyn := dyn) hok h 64 70 0 A J rfl (by decide) ⟨fun v hv => by omega, fun _ _ => rfl, fun _ _ _ => rfl, fun _ _ _ => rfl⟩
  unfold S_X8_workAll L_X8_workAll_A L_X8_workAll_J
  have s1 : S_Lb_X8_workAll_2 70 ht I A J it dyn 0 := s1
  generalize hA2 : Lb_X8_workAll_2_A 70 ht I A J it dyn 0 = A2
  generalize hJ2 : Lb_X8_workAll_2_J 70 ht I A J it dyn 0 = J2
  rw [show Lb_X8_workAll_2_A 70 ht I A J it dyn (nI 0) = A2 from hA2] at a1 a3
  rw [show Lb_X8_workAll_2_J 70 ht I A J it dyn (nI 0) = J2 from hJ2] at a1 a4
  obtain ⟨s2, f1, f2, f3⟩ := follow_M (ht := ht) (I := I) (A := A2) (J := J2) (it := it) (dyn := dyn)
  generalize L_X8_follow_J ht I A2 J2 it dyn = J3 at *
  have hHM : ∀ v : Nat, v < 64 → ∀ u : Nat, bt (J3 32 v) u ↔ HM F R v u := fun v hv u => by
    rw [f1 v hv u]
    constructor
    · intro ht2
      exact (tg_c (D := fun v u => bt (J2 32 v) u) (D' := DM F R) (fun v hv u => (a1 v hv).1 u) (fun v u h => bt_lt h) hv ht2).1
    · intro ht2
      exact (tg_c (D := DM F R) (D' := fun v u => bt (J2 32 v) u) (fun v hv u => ((a1 v hv).1 u).symm) (fun v u hd => DM_lt h.1 h.2.2.2.2 hok hd) hv ht2).1
  obtain ⟨s3, b1, b2, b3⟩ := wa_149 (ht := ht) (I := I) (A := A2) (J := J3) (it := it) (dyn := dyn) hHM
  generalize Lb_X8_workAll_149_A 70 ht I A2 J3 it dyn 0 = A3 at *
  have hMF : MF F R I A3 J3 := h.cg (fun n x y => by rw [b3 n (by omega) (by omega), a3 n (by omega) (by omega)]) (by rw [f3 25 (by decide) (by decide), a4 25 (by decide) (by decide)]) rfl rfl
  have hwk : ∀ v : Nat, v < 64 → HM F R v v → wkM F R v := fun v hv hh => by
    have key : ∀ u : Nat, HM F R v u → wkM F R v := fun u hu => by
      induction hu with
      | single h2 => exact h2.1.2
      | tail _ _ ih => exact ih
    exact key v hh
  have j30 : J3 30 = J2 30 := f3 30 (by decide) (by decide)
  have T : ∀ v : Nat, v < 64 → ¬ wkM F R v → J3 30 v = (if v < 64 then J3 30 v else 0) := fun v hv _ => by rw [if_pos hv]
  have hk : kn F R (fun v => if v < 64 then J3 30 v else 0) A3 J3 := by
    have hz30 : ∀ v : Nat, v < 64 → wkM F R v → J3 30 v = 0 := fun v hv hw => by rw [j30]; exact (a1 v hv).2.2.2.2.2 (fun hh => hw.2 hh.2)
    refine ⟨fun v hv => ?_, fun v hv h0 => ?_, fun v hv hn => ?_, fun v hv hh => ?_, fun v hv hw hn h1 => ?_, fun u hu => ?_⟩
    · by_cases hc : HM F R v v
      · exact Or.inr ((b1 v hv).1 hc).1
      · rw [((b1 v hv).2 hc).1]
        by_cases hw : wkM F R v
        · exact Or.inl ((a1 v hv).2.1 hw)
        · exact Or.inr ((a1 v hv).2.2.1 hw)
    · by_cases hc : HM F R v v
      · rw [((b1 v hv).1 hc).1] at h0; exact absurd h0 (by decide)
      · rw [((b1 v hv).2 hc).1] at h0
        refine ⟨Classical.byContradiction fun hw => ?_, hc⟩
        rw [(a1 v hv).2.2.1 hw] at h0
        exact absurd h0 (by decide)
    · have hc : ¬ HM F R v v := fun hh => hn (hwk v hv hh)
      rw [((b1 v hv).2 hc).1, ((b1 v hv).2 hc).2]
      exact ⟨(a1 v hv).2.2.1 hn, (a1 v hv).2.2.2.1, T v hv hn⟩
    · exact ⟨((b1 v hv).1 hh).1, ((b1 v hv).1 hh).2, hz30 v hv (hwk v hv hh)⟩
    · rw [((b1 v hv).2 hn).1, (a1 v hv).2.1 hw] at h1
      exact absurd h1 (by decide)
    · unfold ocM
      by_cases hc : HM F R u u
      · rw [((b1 u hu).1 hc).2, hz30 u hu (hwk u hu hc)]
        exact OC_n (n := 3) (by decide) (by decide)
      · rw [((b1 u hu).2 hc).2, (a1 u hu).2.2.2.1]
        have ec : cod (J3 30 u) 0 = J3 30 u := by unfold cod; rw [if_pos rfl]
        rw [ec, j30]
        by_cases ht2 : isf F R u ∧ pl F (u / 4) = []
        · rw [(a1 u hu).2.2.2.2.1 ht2]
          exact OC_in (hin u hu ht2.1 ht2.2).1 (hin u hu ht2.1 ht2.2).2
        · rw [(a1 u hu).2.2.2.2.2 ht2]
          exact OC_in (by decide) (by decide)
  obtain ⟨s4, r1, r2, r3⟩ := wa_192 (ht := ht) (it := it) (dyn := dyn) hMF hok (fun v hv u => by rw [f2 v hv]; exact (a1 v hv).1 u) hk
  generalize Lb_X8_workAll_192_A 70 ht I A3 J3 it dyn 0 = A4 at *
  generalize Lb_X8_workAll_192_J 70 ht I A3 J3 it dyn 0 = J4 at *
  refine ⟨⟨s1, s2, s3, s4⟩, fun n x y z => by rw [r2.1 n x y z, b3 n x y, a3 n x y], fun n x y z w => by rw [r2.2 n x w, f3 n y z, a4 n x y], fun v hv u => by rw [r2.2 32 (by decide) (by decide)]; exact hHM v hv u, fun v hv hn => ?_, fun v hv hw => ?_, r1.2.2.2.2.2⟩
  · obtain ⟨q1, q2, q3⟩ := r1.2.2.1 v hv hn
    have q3 : J4 30 v = J3 30 v := q3.trans (if_pos hv)
    refine ⟨q2, fun hf => ?_, fun hf => ?_⟩
    · rw [q3, j30]
      exact (a1 v hv).2.2.2.2.1 ⟨hf, Classical.byContradiction fun hp => hn ⟨hf, hp⟩⟩
    · rw [q3, j30]
      exact (a1 v hv).2.2.2.2.2 (fun hh => hf hh.1)
  · refine ⟨fun hc => ?_, fun hc => (r1.2.2.2.2.1 v hv hw hc (r3 v hv)).1⟩
    obtain ⟨q1, q2, q3⟩ := r1.2.2.2.1 v hv hc
    unfold ocM
    rw [q2, q3]
    rfl
end WB
